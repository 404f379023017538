def rmC (v mc ms : Nat) : Room := { frames := v, cells := mc, slots := ms, locals := 40 * v }
theorem aso_all : ∀ d ∈ ids, (dk d.1).1 = 0 → ∀ k, k < (dk d.1).2.2 → (rk d.1 k = false ∨ asd 108 d k = true) := by decide +kernel
theorem aso_el : ∀ d ∈ ids, (dk d.1).1 = 5 → ∀ j, j < (dk d.1).2.1 → asd 108 d j = true := by decide +kernel
theorem alo_in : ∀ d ∈ alo, d ∈ ids := by decide +kernel
theorem ids_kd : ∀ d ∈ ids, (dk d.1).1 = 0 ∨ (dk d.1).1 = 1 ∨ (dk d.1).1 = 2 ∨ (dk d.1).1 = 3 ∨ (dk d.1).1 = 4 ∨ (dk d.1).1 = 5 := by decide +kernel
theorem at_full {G : Gx} {σ : St} {d : Id3} (hd : d ∈ ids) {a : Nat} {H : Heap} : va_at G.2.1 vwCl (a, enS G 108 σ d) H ↔ va_at G.2.1 vwCl (a, en G σ d) H := by
  obtain ⟨zc, n, b, hk⟩ : ∃ zc n b, dk d.1 = (zc, n, b) := ⟨_, _, _, rfl⟩
  have hz := ids_kd d hd
  rw [hk] at hz
  rcases hz with hz | hz | hz | hz | hz | hz
  · have hz' : zc = 0 := hz
    subst hz'
    have e : enS G 108 σ d = en G σ d := by
      rw [enS_O hk, en_O hk]
      congr 2
      apply List.map_congr_left
      intro k hk1
      have h2 := aso_all d hd (by rw [hk]) k (by rw [hk]; exact List.mem_range.mp hk1)
      rcases h2 with h2 | h2
      · simp [fvS, fv, h2]
      · simp [fvS, fv, h2]
    rw [e]
  · have hz' : zc = 1 := hz
    rw [enS_I hk (Or.inl hz'), en_I hk (Or.inl hz')]
  · have hz' : zc = 2 := hz
    rw [enS_I hk (Or.inr (Or.inl hz')), en_I hk (Or.inr (Or.inl hz'))]
  · have hz' : zc = 3 := hz
    rw [enS_I hk (Or.inr (Or.inr hz')), en_I hk (Or.inr (Or.inr hz'))]
  · have hz' : zc = 4 := hz
    subst hz'
    rw [enS_J hk, en_J hk]
  · have hz' : zc = 5 := hz
    subst hz'
    rw [enS_Q hk, en_Q hk]
    show H[a]? = some (vp_cell _ _) ↔ H[a]? = some (vp_cell _ _)
    rw [vp_cell_q, vp_cell_q]
    have e : arrV (G.2.2.1 b) n (fun j => va_rf (rqS G.1 108 d j)) = arrV (G.2.2.1 b) n (fun j => va_rf (some (G.1 (el d j)))) := arrV_cg (fun j hj => by
      have := aso_el d hd (by rw [hk]) j (by rw [hk]; exact hj)
      simp [rqS, this])
    rw [e]
theorem P_full {G : Gx} {σ : St} {H : Heap} : va_P G.2.1 vwCl (wsZ G 110 108 σ) H ↔ va_P G.2.1 vwCl (wsO G σ) H := by
  constructor
  · intro h k q hq
    rw [wsO, List.getElem?_map] at hq
    cases hd : ids[k]? with
    | none => rw [hd] at hq; cases hq
    | some d =>
      rw [hd] at hq
      cases hq
      have hm := List.mem_of_getElem? hd
      obtain ⟨i, hi⟩ := List.getElem?_of_mem (alo_ids d hm)
      have hl := (List.getElem?_eq_some_iff.mp hi).1
      rw [alo_len] at hl
      exact (at_full hm).mp (h i _ (wsZ_at hi hl))
  · intro h k q hq
    rw [wsZ, List.getElem?_map] at hq
    cases hd : (alo.take 110)[k]? with
    | none => rw [hd] at hq; cases hq
    | some d =>
      rw [hd] at hq
      cases hq
      have hm := alo_in d (List.mem_of_getElem? (tk_inv hd).1)
      obtain ⟨i, h1, h2⟩ := ws_at (G := G) hm σ
      exact (at_full hm).mpr (h i _ h2)
theorem A_full {G : Gx} {z : Nat} (hG : Adr G z) (q : Nat) : AG G q ↔ AZ z q := by
  constructor
  · rintro ⟨d, hd, rfl⟩
    obtain ⟨i, hi⟩ := List.getElem?_of_mem (alo_ids d hd)
    have hl := (List.getElem?_eq_some_iff.mp hi).1
    rw [alo_len] at hl
    rw [hG i d hi]
    exact ⟨Nat.le_add_right _ _, Nat.add_lt_add_left hl z⟩
  · rintro ⟨h1, h2⟩
    have hl : q - z < alo.length := by rw [alo_len]; omega
    refine ⟨alo[q - z], alo_in _ (List.getElem_mem hl), ?_⟩
    rw [hG (q - z) _ (List.getElem?_eq_getElem hl)]
    omega
theorem AG_eq {G : Gx} {z : Nat} (hG : Adr G z) : AG G = AZ z := funext fun q => propext (A_full hG q)
theorem D_full {G : Gx} {z : Nat} (hG : Adr G z) (σ : St) : va_D (AG G) (wsO G σ) := by
  have inj : ∀ d d', d ∈ ids → d' ∈ ids → G.1 d = G.1 d' → d = d' := by
    intro d d' h h' e
    obtain ⟨i, hi⟩ := List.getElem?_of_mem (alo_ids d h)
    obtain ⟨j, hj⟩ := List.getElem?_of_mem (alo_ids d' h')
    rw [hG i d hi, hG j d' hj] at e
    have : i = j := by omega
    subst this
    exact Option.some.inj (hi.symm.trans hj)
  have key : ∀ (k : Nat) (x : Nat × va_E), (wsO G σ)[k]? = some x → ∃ d, ids[k]? = some d ∧ x.1 = G.1 d := by
    intro k x hx
    rw [wsO, List.getElem?_map] at hx
    cases hd : ids[k]? with
    | none => rw [hd] at hx; cases hx
    | some d => rw [hd] at hx; cases hx; exact ⟨d, rfl, rfl⟩
  refine ⟨fun i j x y hx hy hxy => ?_, fun k x hx => ?_⟩
  · obtain ⟨d, h1, h2⟩ := key i x hx
    obtain ⟨d', h3, h4⟩ := key j y hy
    have := inj d d' (List.mem_of_getElem? h1) (List.mem_of_getElem? h3) (by rw [← h2, ← h4, hxy])
    subst this
    have l1 := List.getElem?_eq_some_iff.mp h1
    have l2 := List.getElem?_eq_some_iff.mp h3
    exact (List.getElem_inj ids_nd).mp (l1.2.trans l2.2.symm)
  · obtain ⟨d, h1, h2⟩ := key k x hx
    exact ⟨d, List.mem_of_getElem? h1, h2⟩
theorem Wd_full {G : Gx} {z : Nat} {σ : St} {U : State} (h : WdS G z 110 108 σ U) : Wd G σ U := by
  refine ⟨P_full.mp h.2.1, h.2.2.1, D_full h.2.2.2.1, ?_⟩
  rw [AG_eq h.2.2.2.1]
  exact h.2.2.2.2.1
section RS4
variable {G : Gx} {z n0 : Nat} {p : Program} {l : Launch} {e : Env} {R : Room} {s : State} {m : MethodId} {args : Array Value} {below : List Frame} {meth : Method} {c : Code} {Q : State → Prop} {nL : Nat} {ret : Option FieldType} {own : String} {cc : ByteArray}
variable {cells slots : Nat} {pc : Nat} {ls : List (Nat × VV)} {st st0 : List VV} {σ σ' : St}
variable {y : MethodName} {bytes : ByteArray} {maxL : Nat} {rm : Room} {as : List VV} {index : Nat}
/-- all is made: a call by a contract over stores -/
theorem s_callW (C : Cs G z n0 p s m args meth c ret nL own cc) {d : Id3} {ci N : Nat} {E : String} {T : u_T} (hd : decode cc pc = .ok (.invokevirtual index, 3)) (hM : Sp G l y bytes maxL none rm (vR d :: as) σ (va_Qv (fun b => b = σ') (Wd G) (AG G))) (hok : ∀ v ∈ vR d :: as, okv v) (hm : d ∈ ids) (hk : dk d.1 = (0, ci, N)) (hc : vwCl[ci]? = some (E, T, N)) (hw1 : Cond.methodLink own index y ∈ TB) (hw2 : Cond.instanceMethod y ∈ TB) (hw5 : Cond.selects E y y ∈ TB) (hw3 : Cond.initialized y.cls ∈ TB) (hw4 : Cond.code y bytes maxL none ∈ TB) (hy : y.cls ≠ "java/lang/invoke/MethodHandle" ∧ y.cls ≠ "java/lang/invoke/VarHandle" ∧ (parseMethodDescriptor y.desc).map (fun d => d.parameters.length) = some as.length) (hR : rm.frames + 1 ≤ R.frames ∧ 8 + (maxL + 11) + rm.locals ≤ R.locals) (hrm : rm.cells = 0 ∧ rm.slots = 0) (hcs : cells ≤ R.cells ∧ slots ≤ R.slots) (hn : n0 + cells = 110) (h0 : st0 = as.reverse ++ (vR d :: st)) (hst : ((st.map (tv G.1)).map fun v => v.category).sum ≤ 8) (kk : Rs G z p l e R s m args below meth c Q nL cells slots 110 108 (pc + 3) ls st σ') : Rs G z p l e R s m args below meth c Q nL cells slots 110 108 pc ls st0 σ := by
  intro H locs la hP hS hL
  subst h0
  have hAD := C.2.2.2.2.2.2.1
  have hPO := P_full.mp hP
  obtain ⟨i, g1, g2⟩ := ws_at (G := G) hm σ
  rw [en_O hk] at g2
  refine W_sz fun hsz => ?_
  have hz : H.size = z + 110 := by
    have h1 := wsZ_lt hAD hP (Nat.le_refl _) (by have := hS.1; have := C.2.2.2.2.2.2.2.2.2.2; omega)
    have h2 := C.2.2.2.2.2.2.2.2.2.2
    omega
  exact va_callv (va_runV (C := E) (b := G.1 d) (As := as.map (tv G.1)) (rest := st.map (tv G.1)) (Ts := TB) ⟨C.1, C.2.1, C.2.2.1, C.2.2.2.1, C.2.2.2.2.1⟩ (hM hok) ⟨callB_of as.length C.2.2.2.2.1 (TB_good (fun _ h => h) hw4) rfl hrm.1 hrm.2 (C.2.2.2.2.1 _ hw3) (C.2.2.2.2.1 _ hw1) hy hR, C.2.2.2.2.1 _ hw2, C.2.2.2.2.1 _ hw5⟩ ⟨fun a U g mk q => ⟨q.1, Wd_call q.2⟩, va_recv C.2.2.2.2.2.1 hPO hc g2, fun U hU hW => ⟨rfl, Wd_full (WdS_of C hz hP hS hU hW)⟩⟩ rfl (by simp) hL.1 (by simp [F0, tv]) (lv_room hst) hd hcs) hS (fun q _ h => (A_full hAD q).mp h) (fun q h => (A_full hAD q).mp h) (fun u t H1 locs1 ht hvm hpost hB hz1 hk1 hS1 => by
    subst hpost
    exact kk H1 locs1 la (P_full.mpr (by rw [← ht]; exact hB.1)) hS1 hL)
end RS4
/-! the row of fours -/
def k_fill (d : Id3) (v : Int32) (σ : St) (i : Nat) : St := uR σ d (fun t => if t < i then v else σ.1 d t)
theorem k_fill_0 (d : Id3) (v : Int32) (σ : St) : k_fill d v σ 0 = σ := by
  refine Prod.ext ?_ rfl
  funext d' k'
  simp only [k_fill, uR]
  split
  · rename_i h; subst h; simp
  · rfl
theorem k_fill_s (d : Id3) (v : Int32) (σ : St) (i : Nat) : uI (k_fill d v σ i) d i v = k_fill d v σ (i + 1) := by
  refine Prod.ext ?_ rfl
  funext d' k'
  simp only [k_fill, uR, uI]
  by_cases h : d' = d
  · subst h
    by_cases hk : k' = i
    · subst hk; simp
    · simp only [hk, and_false, if_false, if_true]
      by_cases h2 : k' < i
      · rw [if_pos h2, if_pos (by omega)]
      · rw [if_neg h2, if_neg (by omega)]
  · simp [h]
set_option maxHeartbeats 4000000 in
theorem i_fill_loop {G : Gx} {z n0 : Nat} {p : Program} {l : Launch} {e : Env} {s : State} {m : MethodId} {args : Array Value} {below : List Frame} {meth : Method} {c : Code} (C : Cs G z n0 p s m args meth c none 4 RJ7 cJ7_fill_53178) {k q i : Nat} (ha : alo[i]? = some (8, q, 0)) (hi : i < n0) (hn : n0 ≤ 110) (v : Int32) (σ : St) :
    ∀ (r j : Nat), j + r = 96 → Rs G z p l e (rmC 0 0 0) s m args below meth c (MQ below (va_Qv (fun b => b = k_fill (8, q, 0) v σ 96) (fun u => WdS G z n0 k u) (AZ z)) args s 0 0 (AZ z)) 4 0 0 n0 k 5 [(0, vR (8, q, 0)), (1, vI v), (2, vI (nI j)), (3, vI 96)] [] (k_fill (8, q, 0) v σ j) := by
  intro r
  induction r with
  | zero =>
    intro j hj
    have : j = 96 := by omega
    subst this
    refine s_iload_n C 2 2 dJ7_fill_53178_5 rfl rfl ?_
    refine s_iload_n C 3 3 dJ7_fill_53178_6 rfl rfl ?_
    refine s_geT C 20 dJ7_fill_53178_7 (by decide) (by decide) ?_
    exact s_return C dJ7_fill_53178_20 rfl rfl hn
  | succ r ih =>
    intro j hj
    refine s_iload_n C 2 2 dJ7_fill_53178_5 rfl rfl ?_
    refine s_iload_n C 3 3 dJ7_fill_53178_6 rfl rfl ?_
    refine s_geF C 20 dJ7_fill_53178_7 (by decide) (nI_ge (b := 96) (by omega) (by decide)) ?_
    refine s_aload_n C 0 0 dJ7_fill_53178_10 rfl rfl ?_
    refine s_iload_n C 2 2 dJ7_fill_53178_11 rfl rfl ?_
    refine s_iload_n C 1 1 dJ7_fill_53178_12 rfl rfl ?_
    refine s_iast (j := j) C dJ7_fill_53178_13 ha hi rfl (decide_eq_true (nI_in (by omega) (by decide))) (nI_clamp (by omega)) ?_
    rw [k_fill_s]
    refine s_iinc (v := nI (j + 1)) (ls2 := [(2, vI (nI (j + 1))), (0, vR (8, q, 0)), (1, vI v), (3, vI 96)]) C 2 dJ7_fill_53178_14 rfl (nI_succ j).symm (by decide) rfl ?_
    refine s_goto C 5 dJ7_fill_53178_17 (by decide) ?_
    intro H locs la hP hS hL
    exact ih (j + 1) (by omega) H locs la hP hS ⟨hL.1, hL.2.1, fun x hx => hL.2.2 x (by
      simp only [List.map_cons, List.map_nil, List.mem_cons, List.not_mem_nil, or_false] at hx ⊢
      rcases hx with h | h | h | h <;> simp [h])⟩
theorem i_fill (G : Gx) (z : Nat) (l : Launch) {n k q i : Nat} (ha : alo[i]? = some (8, q, 0)) (hi : i < n) (hn : n ≤ 110) (v : Int32) (σ : St) : SpS G z l yJ7_fill_53178 cJ7_fill_53178 4 none (rmC 0 0 0) n k [vR (8, q, 0), vI v] σ (va_Qv (fun b => b = k_fill (8, q, 0) v σ 96) (fun u => WdS G z n k u) (AZ z)) 0 0 := by
  refine SpS_of (own := RJ7) (by decide) rfl (Nat.le_of_ble_eq_true rfl) ?_
  intro p e s m args below meth c C hI
  show Rs G z p l e (rmC 0 0 0) s m args below meth c (MQ below _ args s 0 0 (AZ z)) 4 0 0 n k 0 [(0, vR (8, q, 0)), (1, vI v)] [] σ
  refine s_iconst (v := 0) C dJ7_fill_53178_0 rfl ?_
  refine s_istore_n (ls2 := [(2, vI 0), (0, vR (8, q, 0)), (1, vI v)]) C dJ7_fill_53178_1 2 rfl (by decide) rfl ?_
  refine s_aload_n C 1 0 dJ7_fill_53178_2 rfl rfl ?_
  refine s_alen (v := 96) C dJ7_fill_53178_3 ha hi rfl rfl ?_
  refine s_istore_n (ls2 := [(3, vI 96), (2, vI 0), (0, vR (8, q, 0)), (1, vI v)]) C dJ7_fill_53178_4 3 rfl (by decide) rfl ?_
  intro H locs la hP hS hL
  have h := i_fill_loop (l := l) (e := e) (below := below) C (k := k) ha hi hn v σ 96 0 rfl H locs la (by rw [k_fill_0]; exact hP) hS ⟨hL.1, hL.2.1, fun x hx => hL.2.2 x (by
      simp only [List.map_cons, List.map_nil, List.mem_cons, List.not_mem_nil, or_false] at hx ⊢
      rcases hx with h | h | h | h <;> simp [h, nI_0])⟩
  exact h

def k_drop (d : Id3) (σ : St) : St := uI (uI (uI (uI (uI (uI σ d 0 0) d 1 0) d 2 0) d 3 0) d 4 (-4)) d 5 (-4)
set_option maxHeartbeats 4000000 in
theorem i_X0_init (G : Gx) (z : Nat) (l : Launch) {n k q j i : Nat} (ha : alo[i]? = some (10, q, j)) (hi : i < n) (hn : n ≤ 110) (σ : St) : SpS G z l yX0_init cX0_init 1 none (rmC 1 0 0) n k [vR (10, q, j)] σ (va_Qv (fun b => b = k_drop (10, q, j) σ) (fun u => WdS G z n k u) (AZ z)) 0 0 := by
  refine SpS_of (own := RX0) (by decide) rfl (Nat.le_of_ble_eq_true rfl) ?_
  intro p e s m args below meth c C hI
  show Rs G z p l e (rmC 1 0 0) s m args below meth c (MQ below _ args s 0 0 (AZ z)) 1 0 0 n k 0 [(0, vR (10, q, j))] [] σ
  refine s_aload_n C 0 0 dX0_init_0 rfl rfl ?_
  refine s_objInit C dX0_init_1 t_1_117 t_1_27 t_1_28 ⟨Nat.le_of_ble_eq_true rfl, Nat.le_of_ble_eq_true rfl⟩ ?_
  refine s_aload_n C 0 0 dX0_init_4 rfl rfl ?_
  refine s_iconst (v := (0 : Int32)) C dX0_init_5 rfl ?_
  refine s_putI (kf := 0) (ty0 := tyX0) C dX0_init_6 ha hi rfl rfl f_X0 tyX0_ok nmX0 (by decide) t_1_118 rfl rfl rfl rfl ?_
  refine s_aload_n C 0 0 dX0_init_9 rfl rfl ?_
  refine s_iconst (v := (0 : Int32)) C dX0_init_10 rfl ?_
  refine s_putI (kf := 1) (ty0 := tyX0) C dX0_init_11 ha hi rfl rfl f_X0 tyX0_ok nmX0 (by decide) t_1_123 rfl rfl rfl rfl ?_
  refine s_aload_n C 0 0 dX0_init_14 rfl rfl ?_
  refine s_iconst (v := (0 : Int32)) C dX0_init_15 rfl ?_
  refine s_putI (kf := 2) (ty0 := tyX0) C dX0_init_16 ha hi rfl rfl f_X0 tyX0_ok nmX0 (by decide) t_1_126 rfl rfl rfl rfl ?_
  refine s_aload_n C 0 0 dX0_init_19 rfl rfl ?_
  refine s_iconst (v := (0 : Int32)) C dX0_init_20 rfl ?_
  refine s_putI (kf := 3) (ty0 := tyX0) C dX0_init_21 ha hi rfl rfl f_X0 tyX0_ok nmX0 (by decide) t_1_130 rfl rfl rfl rfl ?_
  refine s_aload_n C 0 0 dX0_init_24 rfl rfl ?_
  refine s_bipush (v := (-4 : Int32)) C dX0_init_25 rfl ?_
  refine s_putI (kf := 4) (ty0 := tyX0) C dX0_init_27 ha hi rfl rfl f_X0 tyX0_ok nmX0 (by decide) t_1_134 rfl rfl rfl rfl ?_
  refine s_aload_n C 0 0 dX0_init_30 rfl rfl ?_
  refine s_bipush (v := (-4 : Int32)) C dX0_init_31 rfl ?_
  refine s_putI (kf := 5) (ty0 := tyX0) C dX0_init_33 ha hi rfl rfl f_X0 tyX0_ok nmX0 (by decide) t_1_137 rfl rfl rfl rfl ?_
  exact s_return C dX0_init_36 rfl rfl hn
def k_rules (q : Nat) (σ : St) : St := uR σ (4, q, 0) (va_cpy (roC 102) (σ.1 (4, q, 0)) (0 : Int32).toNatClampNeg (0 : Int32).toNatClampNeg (9 : Int32).toNatClampNeg)
set_option maxHeartbeats 4000000 in
theorem i_X5_beginAnew (G : Gx) (z : Nat) (l : Launch) {n k q i i2 : Nat} (ha : alo[i]? = some (3, q, 0)) (hi : i < n) (ha2 : alo[i2]? = some (4, q, 0)) (hi2 : i2 < n) (hs : asd k (3, q, 0) 0 = true) (hn : n ≤ 110) (σ : St) : SpS G z l yX5_beginAnew cX5_beginAnew 1 none (rmC 1 0 0) n k [vR (3, q, 0)] σ (va_Qv (fun b => b = k_rules q σ) (fun u => WdS G z n k u) (AZ z)) 0 0 := by
  refine SpS_of (own := RX5) (by decide) rfl (Nat.le_of_ble_eq_true rfl) ?_
  intro p e s m args below meth c C hI
  show Rs G z p l e (rmC 1 0 0) s m args below meth c (MQ below _ args s 0 0 (AZ z)) 1 0 0 n k 0 [(0, vR (3, q, 0))] [] σ
  refine s_getsN (t := 102) (nmn := "RULE_FIRST") C dX5_beginAnew_0 (by decide) (by decide) ?_
  refine s_iconst (v := (0 : Int32)) C dX5_beginAnew_3 rfl ?_
  refine s_aload_n C 0 0 dX5_beginAnew_4 rfl rfl ?_
  refine s_getR (kf := 0) (d2 := (4, q, 0)) C dX5_beginAnew_5 ha hi rfl rfl f_X5 (by decide) t_1_50 rfl hs rfl ?_
  refine s_iconst (v := (0 : Int32)) C dX5_beginAnew_8 rfl ?_
  refine s_bipush (v := (9 : Int32)) C dX5_beginAnew_9 rfl ?_
  refine s_copyT (t := 102) (n := 9) C dX5_beginAnew_11 (by decide) rfl ha2 hi2 rfl t_1_47 t_1_49 t_1_48 t_1_4 ⟨Nat.le_of_ble_eq_true rfl, Nat.le_of_ble_eq_true rfl⟩ (by decide) rfl rfl ?_
  exact s_return C dX5_beginAnew_14 rfl rfl hn
def k_X5_4 (σ : St) : St := (k_rules 1 (uR σ (4, 1, 0) (fun _ => 0)))
set_option maxHeartbeats 4000000 in
set_option maxRecDepth 20000 in
theorem i_X5_4 (G : Gx) (z : Nat) (l : Launch) (σ : St) : SpS G z l yX5_init cX5_init 1 none (rmC 2 1 9) 4 1 [vR (3, 1, 0)] σ (va_Qv (fun b => b = k_X5_4 σ) (fun u => WdS G z 5 2 u) (AZ z)) 1 9 := by
  refine SpS_of (own := RX5) (by decide) rfl (Nat.le_of_ble_eq_true rfl) ?_
  intro p e s m args below meth c C hI
  show Rs G z p l e (rmC 2 1 9) s m args below meth c (MQ below _ args s 1 9 (AZ z)) 1 0 0 4 1 0 [(0, vR (3, 1, 0))] [] σ
  refine s_aload_n C 0 0 dX5_init_0 rfl rfl ?_
  refine s_objInit C dX5_init_1 t_1_40 t_1_27 t_1_28 ⟨Nat.le_of_ble_eq_true rfl, Nat.le_of_ble_eq_true rfl⟩ ?_
  refine s_aload_n C 0 0 dX5_init_4 rfl rfl ?_
  refine s_bipush (v := (9 : Int32)) C dX5_init_5 rfl ?_
  refine s_newa (d := (4, 1, 0)) (ty := .int) C dX5_init_7 rfl rfl (by decide) rfl rfl rfl (fun _ h => h) t_1_55 ⟨by decide, by decide, by decide⟩ rfl (by decide) ⟨Nat.le_of_ble_eq_true rfl, Nat.le_of_ble_eq_true rfl⟩ ?_
  refine s_putR (i := 3) (kf := 0) (ty0 := tyX5) C hI dX5_init_9 rfl (by decide) rfl rfl f_X5 tyX5_ok nmX5 (by decide) t_1_50 rfl rfl rfl rfl rfl (fun _ => rfl) (fun _ => rfl) ?_
  refine s_aload_n C 0 0 dX5_init_12 rfl rfl ?_
  refine s_callV (as := []) (st := []) (i := 3) C dX5_init_13 (i_X5_beginAnew G z l (i := 3) (i2 := 4) rfl (by decide) rfl (by decide) (by decide +kernel) (by decide) _) rfl (by decide) rfl rfl t_1_41 t_1_42 t_1_43 t_1_3 t_1_44 m_X5_beginAnew ⟨Nat.le_of_ble_eq_true rfl, Nat.le_of_ble_eq_true rfl⟩ ⟨rfl, rfl⟩ ⟨Nat.le_of_ble_eq_true rfl, Nat.le_of_ble_eq_true rfl⟩ rfl (by decide) rfl (Nat.le_of_ble_eq_true rfl) ?_
  exact s_return C dX5_init_16 rfl rfl (by decide)
def k_X8_2 (σ : St) : St := (uI (uI (uI (uI (uI (uI (uI (uI (uR (uR (k_X5_4 (uR (uR σ (1, 0, 0) (fun _ => 0)) (3, 1, 0) (fun _ => 0))) (5, 0, 0) (fun _ => 0)) (6, 0, 0) (fun _ => 0)) (2, 0, 0) 4 (0 : Int32)) (2, 0, 0) 5 (0 : Int32)) (2, 0, 0) 6 (0 : Int32)) (2, 0, 0) 7 (0 : Int32)) (2, 0, 0) 8 (0 : Int32)) (2, 0, 0) 9 (0 : Int32)) (2, 0, 0) 10 (0 : Int32)) (2, 0, 0) 11 (0 : Int32))
set_option maxHeartbeats 4000000 in
set_option maxRecDepth 20000 in
theorem i_X8_2 (G : Gx) (z : Nat) (l : Launch) (σ : St) : SpS G z l yX8_init cX8_init 1 none (rmC 3 5 435) 2 0 [vR (2, 0, 0)] σ (va_Qv (fun b => b = k_X8_2 σ) (fun u => WdS G z 7 5 u) (AZ z)) 5 435 := by
  refine SpS_of (own := RX8) (by decide) rfl (Nat.le_of_ble_eq_true rfl) ?_
  intro p e s m args below meth c C hI
  show Rs G z p l e (rmC 3 5 435) s m args below meth c (MQ below _ args s 5 435 (AZ z)) 1 0 0 2 0 0 [(0, vR (2, 0, 0))] [] σ
  refine s_aload_n C 0 0 dX8_init_0 rfl rfl ?_
  refine s_objInit C dX8_init_1 t_1_34 t_1_27 t_1_28 ⟨Nat.le_of_ble_eq_true rfl, Nat.le_of_ble_eq_true rfl⟩ ?_
  refine s_aload_n C 0 0 dX8_init_4 rfl rfl ?_
  refine s_sipush (v := (320 : Int32)) C dX8_init_5 rfl ?_
  refine s_newa (d := (1, 0, 0)) (ty := .byte) C dX8_init_8 rfl rfl (by decide) rfl rfl rfl (fun _ h => h) t_1_54 ⟨by decide, by decide, by decide⟩ rfl (by decide) ⟨Nat.le_of_ble_eq_true rfl, Nat.le_of_ble_eq_true rfl⟩ ?_
  refine s_putR (i := 1) (kf := 0) (ty0 := tyX8) C hI dX8_init_10 rfl (by decide) rfl rfl f_X8 tyX8_ok nmX8 (by decide) t_1_56 rfl rfl rfl rfl rfl (fun _ => rfl) (fun _ => rfl) ?_
  refine s_aload_n C 0 0 dX8_init_13 rfl rfl ?_
  refine s_new (d := (3, 1, 0)) (ty := tyX5) C dX8_init_14 rfl rfl rfl f_X5 tyX5_ok (by decide +kernel) t_1_35 t_1_36 t_1_3 rfl (by decide) ⟨Nat.le_of_ble_eq_true rfl, Nat.le_of_ble_eq_true rfl⟩ ?_
  refine s_dup C dX8_init_17 ?_
  refine s_callI (as := []) (st := [vR (3, 1, 0), vR (2, 0, 0)]) (mc := 1) (ms := 9) (n1 := 5) (k1 := 2) C dX8_init_18 (i_X5_4 G z l _) t_1_37 t_1_38 t_1_3 rfl t_1_39 m_X5_init ⟨Nat.le_of_ble_eq_true rfl, Nat.le_of_ble_eq_true rfl⟩ ⟨rfl, rfl⟩ ⟨Nat.le_of_ble_eq_true rfl, Nat.le_of_ble_eq_true rfl⟩ rfl (by decide) rfl (Nat.le_of_ble_eq_true rfl) ?_
  refine s_putR (i := 1) (kf := 1) (ty0 := tyX8) C hI dX8_init_21 rfl (by decide) rfl rfl f_X8 tyX8_ok nmX8 (by decide) t_1_58 rfl rfl rfl rfl rfl (fun _ => rfl) (fun _ => rfl) ?_
  refine s_aload_n C 0 0 dX8_init_24 rfl rfl ?_
  refine s_bipush (v := (96 : Int32)) C dX8_init_25 rfl ?_
  refine s_newa (d := (5, 0, 0)) (ty := .int) C dX8_init_27 rfl rfl (by decide) rfl rfl rfl (fun _ h => h) t_1_55 ⟨by decide, by decide, by decide⟩ rfl (by decide) ⟨Nat.le_of_ble_eq_true rfl, Nat.le_of_ble_eq_true rfl⟩ ?_
  refine s_putR (i := 1) (kf := 2) (ty0 := tyX8) C hI dX8_init_29 rfl (by decide) rfl rfl f_X8 tyX8_ok nmX8 (by decide) t_1_60 rfl rfl rfl rfl rfl (fun _ => rfl) (fun _ => rfl) ?_
  refine s_aload_n C 0 0 dX8_init_32 rfl rfl ?_
  refine s_bipush (v := (9 : Int32)) C dX8_init_33 rfl ?_
  refine s_newa (d := (6, 0, 0)) (ty := .boolean) C dX8_init_35 rfl rfl (by decide) rfl rfl rfl (fun _ h => h) t_1_99 ⟨by decide, by decide, by decide⟩ rfl (by decide) ⟨Nat.le_of_ble_eq_true rfl, Nat.le_of_ble_eq_true rfl⟩ ?_
  refine s_putR (i := 1) (kf := 3) (ty0 := tyX8) C hI dX8_init_37 rfl (by decide) rfl rfl f_X8 tyX8_ok nmX8 (by decide) t_1_62 rfl rfl rfl rfl rfl (fun _ => rfl) (fun _ => rfl) ?_
  refine s_aload_n C 0 0 dX8_init_40 rfl rfl ?_
  refine s_iconst (v := (0 : Int32)) C dX8_init_41 rfl ?_
  refine s_putI (i := 1) (kf := 4) (ty0 := tyX8) C dX8_init_42 rfl (by decide) rfl rfl f_X8 tyX8_ok nmX8 (by decide) t_1_63 rfl rfl rfl rfl ?_
  refine s_aload_n C 0 0 dX8_init_45 rfl rfl ?_
  refine s_iconst (v := (0 : Int32)) C dX8_init_46 rfl ?_
  refine s_putI (i := 1) (kf := 5) (ty0 := tyX8) C dX8_init_47 rfl (by decide) rfl rfl f_X8 tyX8_ok nmX8 (by decide) t_1_64 rfl rfl rfl rfl ?_
  refine s_aload_n C 0 0 dX8_init_50 rfl rfl ?_
  refine s_iconst (v := (0 : Int32)) C dX8_init_51 rfl ?_
  refine s_putI (i := 1) (kf := 6) (ty0 := tyX8) C dX8_init_52 rfl (by decide) rfl rfl f_X8 tyX8_ok nmX8 (by decide) t_1_65 rfl rfl rfl rfl ?_
  refine s_aload_n C 0 0 dX8_init_55 rfl rfl ?_
  refine s_iconst (v := (0 : Int32)) C dX8_init_56 rfl ?_
  refine s_putI (i := 1) (kf := 7) (ty0 := tyX8) C dX8_init_57 rfl (by decide) rfl rfl f_X8 tyX8_ok nmX8 (by decide) t_1_66 rfl rfl rfl rfl ?_
  refine s_aload_n C 0 0 dX8_init_60 rfl rfl ?_
  refine s_iconst (v := (0 : Int32)) C dX8_init_61 rfl ?_
  refine s_putI (i := 1) (kf := 8) (ty0 := tyX8) C dX8_init_62 rfl (by decide) rfl rfl f_X8 tyX8_ok nmX8 (by decide) t_1_67 rfl rfl rfl rfl ?_
  refine s_aload_n C 0 0 dX8_init_65 rfl rfl ?_
  refine s_iconst (v := (0 : Int32)) C dX8_init_66 rfl ?_
  refine s_putI (i := 1) (kf := 9) (ty0 := tyX8) C dX8_init_67 rfl (by decide) rfl rfl f_X8 tyX8_ok nmX8 (by decide) t_1_68 rfl rfl rfl rfl ?_
  refine s_aload_n C 0 0 dX8_init_70 rfl rfl ?_
  refine s_iconst (v := (0 : Int32)) C dX8_init_71 rfl ?_
  refine s_putI (i := 1) (kf := 10) (ty0 := tyX8) C dX8_init_72 rfl (by decide) rfl rfl f_X8 tyX8_ok nmX8 (by decide) t_1_70 rfl rfl rfl rfl ?_
  refine s_aload_n C 0 0 dX8_init_75 rfl rfl ?_
  refine s_iconst (v := (0 : Int32)) C dX8_init_76 rfl ?_
  refine s_putI (i := 1) (kf := 11) (ty0 := tyX8) C dX8_init_77 rfl (by decide) rfl rfl f_X8 tyX8_ok nmX8 (by decide) t_1_72 rfl rfl rfl rfl ?_
  exact s_return C dX8_init_80 rfl rfl (by decide)
def k_X5_8 (σ : St) : St := (k_rules 0 (uR σ (4, 0, 0) (fun _ => 0)))
set_option maxHeartbeats 4000000 in
set_option maxRecDepth 20000 in
theorem i_X5_8 (G : Gx) (z : Nat) (l : Launch) (σ : St) : SpS G z l yX5_init cX5_init 1 none (rmC 2 1 9) 8 6 [vR (3, 0, 0)] σ (va_Qv (fun b => b = k_X5_8 σ) (fun u => WdS G z 9 7 u) (AZ z)) 1 9 := by
  refine SpS_of (own := RX5) (by decide) rfl (Nat.le_of_ble_eq_true rfl) ?_
  intro p e s m args below meth c C hI
  show Rs G z p l e (rmC 2 1 9) s m args below meth c (MQ below _ args s 1 9 (AZ z)) 1 0 0 8 6 0 [(0, vR (3, 0, 0))] [] σ
  refine s_aload_n C 0 0 dX5_init_0 rfl rfl ?_
  refine s_objInit C dX5_init_1 t_1_40 t_1_27 t_1_28 ⟨Nat.le_of_ble_eq_true rfl, Nat.le_of_ble_eq_true rfl⟩ ?_
  refine s_aload_n C 0 0 dX5_init_4 rfl rfl ?_
  refine s_bipush (v := (9 : Int32)) C dX5_init_5 rfl ?_
  refine s_newa (d := (4, 0, 0)) (ty := .int) C dX5_init_7 rfl rfl (by decide) rfl rfl rfl (fun _ h => h) t_1_55 ⟨by decide, by decide, by decide⟩ rfl (by decide) ⟨Nat.le_of_ble_eq_true rfl, Nat.le_of_ble_eq_true rfl⟩ ?_
  refine s_putR (i := 7) (kf := 0) (ty0 := tyX5) C hI dX5_init_9 rfl (by decide) rfl rfl f_X5 tyX5_ok nmX5 (by decide) t_1_50 rfl rfl rfl rfl rfl (fun _ => rfl) (fun _ => rfl) ?_
  refine s_aload_n C 0 0 dX5_init_12 rfl rfl ?_
  refine s_callV (as := []) (st := []) (i := 7) C dX5_init_13 (i_X5_beginAnew G z l (i := 7) (i2 := 8) rfl (by decide) rfl (by decide) (by decide +kernel) (by decide) _) rfl (by decide) rfl rfl t_1_41 t_1_42 t_1_43 t_1_3 t_1_44 m_X5_beginAnew ⟨Nat.le_of_ble_eq_true rfl, Nat.le_of_ble_eq_true rfl⟩ ⟨rfl, rfl⟩ ⟨Nat.le_of_ble_eq_true rfl, Nat.le_of_ble_eq_true rfl⟩ rfl (by decide) rfl (Nat.le_of_ble_eq_true rfl) ?_
  exact s_return C dX5_init_16 rfl rfl (by decide)
def k_X6_10 (σ : St) : St := (k_drop (10, 0, 11) (uR (k_drop (10, 0, 10) (uR (k_drop (10, 0, 9) (uR (k_drop (10, 0, 8) (uR (k_drop (10, 0, 7) (uR (k_drop (10, 0, 6) (uR (k_drop (10, 0, 5) (uR (k_drop (10, 0, 4) (uR (k_drop (10, 0, 3) (uR (k_drop (10, 0, 2) (uR (k_drop (10, 0, 1) (uR (k_drop (10, 0, 0) (uR (k_fill (8, 0, 0) (4 : Int32) (uI (uI (uI (uI (uI (uI (uI (uI (uI (uR σ (8, 0, 0) (fun _ => 0)) (7, 0, 0) 2 (0 : Int32)) (7, 0, 0) 3 (0 : Int32)) (7, 0, 0) 4 (0 : Int32)) (7, 0, 0) 5 (0 : Int32)) (7, 0, 0) 6 (0 : Int32)) (7, 0, 0) 7 (0 : Int32)) (7, 0, 0) 8 (0 : Int32)) (7, 0, 0) 9 (0 : Int32)) (7, 0, 0) 10 (0 : Int32)) 96) (10, 0, 0) (fun _ => 0))) (10, 0, 1) (fun _ => 0))) (10, 0, 2) (fun _ => 0))) (10, 0, 3) (fun _ => 0))) (10, 0, 4) (fun _ => 0))) (10, 0, 5) (fun _ => 0))) (10, 0, 6) (fun _ => 0))) (10, 0, 7) (fun _ => 0))) (10, 0, 8) (fun _ => 0))) (10, 0, 9) (fun _ => 0))) (10, 0, 10) (fun _ => 0))) (10, 0, 11) (fun _ => 0)))
set_option maxHeartbeats 4000000 in
set_option maxRecDepth 20000 in
theorem i_X6_10 (G : Gx) (z : Nat) (l : Launch) (σ : St) : SpS G z l yX6_init cX6_init 2 none (rmC 2 14 180) 10 8 [vR (7, 0, 0)] σ (va_Qv (fun b => b = k_X6_10 σ) (fun u => WdS G z 24 22 u) (AZ z)) 14 180 := by
  refine SpS_of (own := RX6) (by decide) rfl (Nat.le_of_ble_eq_true rfl) ?_
  intro p e s m args below meth c C hI
  show Rs G z p l e (rmC 2 14 180) s m args below meth c (MQ below _ args s 14 180 (AZ z)) 2 0 0 10 8 0 [(0, vR (7, 0, 0))] [] σ
  refine s_aload_n C 0 0 dX6_init_0 rfl rfl ?_
  refine s_objInit C dX6_init_1 t_1_107 t_1_27 t_1_28 ⟨Nat.le_of_ble_eq_true rfl, Nat.le_of_ble_eq_true rfl⟩ ?_
  refine s_aload_n C 0 0 dX6_init_4 rfl rfl ?_
  refine s_bipush (v := (96 : Int32)) C dX6_init_5 rfl ?_
  refine s_newa (d := (8, 0, 0)) (ty := .int) C dX6_init_7 rfl rfl (by decide) rfl rfl rfl (fun _ h => h) t_1_55 ⟨by decide, by decide, by decide⟩ rfl (by decide) ⟨Nat.le_of_ble_eq_true rfl, Nat.le_of_ble_eq_true rfl⟩ ?_
  refine s_putR (i := 9) (kf := 0) (ty0 := tyX6) C hI dX6_init_9 rfl (by decide) rfl rfl f_X6 tyX6_ok nmX6 (by decide) t_1_153 rfl rfl rfl rfl rfl (fun _ => rfl) (fun _ => rfl) ?_
  refine s_aload_n C 0 0 dX6_init_12 rfl rfl ?_
  refine s_bipush (v := (12 : Int32)) C dX6_init_13 rfl ?_
  refine s_newq (d := (9, 0, 0)) C dX6_init_15 rfl rfl rfl (by decide) (by decide +kernel) t_1_108 ⟨by decide, by decide, by decide⟩ rfl (by decide) ⟨Nat.le_of_ble_eq_true rfl, Nat.le_of_ble_eq_true rfl⟩ ?_
  refine s_putR (i := 9) (kf := 1) (ty0 := tyX6) C hI dX6_init_18 rfl (by decide) rfl rfl f_X6 tyX6_ok nmX6 (by decide) t_1_156 rfl rfl rfl rfl rfl (fun _ => rfl) (fun _ => rfl) ?_
  refine s_aload_n C 0 0 dX6_init_21 rfl rfl ?_
  refine s_iconst (v := (0 : Int32)) C dX6_init_22 rfl ?_
  refine s_putI (i := 9) (kf := 2) (ty0 := tyX6) C dX6_init_23 rfl (by decide) rfl rfl f_X6 tyX6_ok nmX6 (by decide) t_1_159 rfl rfl rfl rfl ?_
  refine s_aload_n C 0 0 dX6_init_26 rfl rfl ?_
  refine s_iconst (v := (0 : Int32)) C dX6_init_27 rfl ?_
  refine s_putI (i := 9) (kf := 3) (ty0 := tyX6) C dX6_init_28 rfl (by decide) rfl rfl f_X6 tyX6_ok nmX6 (by decide) t_1_161 rfl rfl rfl rfl ?_
  refine s_aload_n C 0 0 dX6_init_31 rfl rfl ?_
  refine s_iconst (v := (0 : Int32)) C dX6_init_32 rfl ?_
  refine s_putI (i := 9) (kf := 4) (ty0 := tyX6) C dX6_init_33 rfl (by decide) rfl rfl f_X6 tyX6_ok nmX6 (by decide) t_1_163 rfl rfl rfl rfl ?_
  refine s_aload_n C 0 0 dX6_init_36 rfl rfl ?_
  refine s_iconst (v := (0 : Int32)) C dX6_init_37 rfl ?_
  refine s_putI (i := 9) (kf := 5) (ty0 := tyX6) C dX6_init_38 rfl (by decide) rfl rfl f_X6 tyX6_ok nmX6 (by decide) t_1_165 rfl rfl rfl rfl ?_
  refine s_aload_n C 0 0 dX6_init_41 rfl rfl ?_
  refine s_iconst (v := (0 : Int32)) C dX6_init_42 rfl ?_
  refine s_putI (i := 9) (kf := 6) (ty0 := tyX6) C dX6_init_43 rfl (by decide) rfl rfl f_X6 tyX6_ok nmX6 (by decide) t_1_167 rfl rfl (nar_z (Or.inl rfl)) (fit_z (Or.inl rfl)) ?_
  refine s_aload_n C 0 0 dX6_init_46 rfl rfl ?_
  refine s_iconst (v := (0 : Int32)) C dX6_init_47 rfl ?_
  refine s_putI (i := 9) (kf := 7) (ty0 := tyX6) C dX6_init_48 rfl (by decide) rfl rfl f_X6 tyX6_ok nmX6 (by decide) t_1_169 rfl rfl rfl rfl ?_
  refine s_aload_n C 0 0 dX6_init_51 rfl rfl ?_
  refine s_iconst (v := (0 : Int32)) C dX6_init_52 rfl ?_
  refine s_putI (i := 9) (kf := 8) (ty0 := tyX6) C dX6_init_53 rfl (by decide) rfl rfl f_X6 tyX6_ok nmX6 (by decide) t_1_171 rfl rfl rfl rfl ?_
  refine s_aload_n C 0 0 dX6_init_56 rfl rfl ?_
  refine s_iconst (v := (0 : Int32)) C dX6_init_57 rfl ?_
  refine s_putI (i := 9) (kf := 9) (ty0 := tyX6) C dX6_init_58 rfl (by decide) rfl rfl f_X6 tyX6_ok nmX6 (by decide) t_1_173 rfl rfl rfl rfl ?_
  refine s_aload_n C 0 0 dX6_init_61 rfl rfl ?_
  refine s_iconst (v := (0 : Int32)) C dX6_init_62 rfl ?_
  refine s_putI (i := 9) (kf := 10) (ty0 := tyX6) C dX6_init_63 rfl (by decide) rfl rfl f_X6 tyX6_ok nmX6 (by decide) t_1_175 rfl rfl rfl rfl ?_
  refine s_aload_n C 0 0 dX6_init_66 rfl rfl ?_
  refine s_getR (i := 9) (kf := 0) (d2 := (8, 0, 0)) C dX6_init_67 rfl (by decide) rfl rfl f_X6 (by decide) t_1_153 rfl (by decide +kernel) rfl ?_
  refine s_iconst (v := (4 : Int32)) C dX6_init_70 rfl ?_
  refine s_callS (as := [vR (8, 0, 0), vI (4 : Int32)]) (st := []) C dX6_init_71 (i_fill G z l (i := 10) rfl (by decide) (by decide) (4 : Int32) _) t_1_110 t_1_111 t_1_6 t_1_112 m_J7_fill_53178 ⟨Nat.le_of_ble_eq_true rfl, Nat.le_of_ble_eq_true rfl⟩ ⟨rfl, rfl⟩ ⟨Nat.le_of_ble_eq_true rfl, Nat.le_of_ble_eq_true rfl⟩ rfl (by decide) rfl (Nat.le_of_ble_eq_true rfl) ?_
  refine s_iconst (v := (0 : Int32)) C dX6_init_74 rfl ?_
  refine s_istore_n (ls2 := [(1, vI (0 : Int32)), (0, vR (7, 0, 0))]) C dX6_init_75 1 rfl (by decide) rfl ?_
  refine s_iload_n C 0 1 dX6_init_76 rfl rfl ?_
  refine s_bipush (v := (12 : Int32)) C dX6_init_77 rfl ?_
  refine s_geF C 101 dX6_init_79 (by decide) (by decide) ?_
  refine s_aload_n C 1 0 dX6_init_82 rfl rfl ?_
  refine s_getR (i := 9) (kf := 1) (d2 := (9, 0, 0)) C dX6_init_83 rfl (by decide) rfl rfl f_X6 (by decide) t_1_156 rfl (by decide +kernel) rfl ?_
  refine s_iload_n C 0 1 dX6_init_86 rfl rfl ?_
  refine s_new (d := (10, 0, 0)) (ty := tyX0) C dX6_init_87 rfl rfl rfl f_X0 tyX0_ok (by decide +kernel) t_1_108 t_1_113 t_1_7 rfl (by decide) ⟨Nat.le_of_ble_eq_true rfl, Nat.le_of_ble_eq_true rfl⟩ ?_
  refine s_dup C dX6_init_90 ?_
  refine s_callIN (as := []) (st := [vR (10, 0, 0), vI (0 : Int32), vR (9, 0, 0)]) (mc := 0) (ms := 0) (n1 := 13) (k1 := 10) C dX6_init_91 (i_X0_init G z l (i := 12) rfl (by decide) (by decide) _) (by decide) t_1_115 t_1_7 rfl t_1_116 m_X0_init ⟨Nat.le_of_ble_eq_true rfl, Nat.le_of_ble_eq_true rfl⟩ ⟨rfl, rfl⟩ ⟨Nat.le_of_ble_eq_true rfl, Nat.le_of_ble_eq_true rfl⟩ rfl (by decide) rfl (Nat.le_of_ble_eq_true rfl) ?_
  refine s_aast (i := 11) (i2 := 12) (j := 0) C dX6_init_94 rfl (by decide) rfl (by decide) rfl rfl rfl rfl (by decide) (by decide) rfl rfl ?_
  refine s_iinc (v := (1 : Int32)) (ls2 := [(1, vI (1 : Int32)), (0, vR (7, 0, 0))]) C 0 dX6_init_95 rfl (by decide) (by decide) rfl ?_
  refine s_goto C 76 dX6_init_98 (by decide) ?_
  refine s_iload_n C 0 1 dX6_init_76 rfl rfl ?_
  refine s_bipush (v := (12 : Int32)) C dX6_init_77 rfl ?_
  refine s_geF C 101 dX6_init_79 (by decide) (by decide) ?_
  refine s_aload_n C 1 0 dX6_init_82 rfl rfl ?_
  refine s_getR (i := 9) (kf := 1) (d2 := (9, 0, 0)) C dX6_init_83 rfl (by decide) rfl rfl f_X6 (by decide) t_1_156 rfl (by decide +kernel) rfl ?_
  refine s_iload_n C 0 1 dX6_init_86 rfl rfl ?_
  refine s_new (d := (10, 0, 1)) (ty := tyX0) C dX6_init_87 rfl rfl rfl f_X0 tyX0_ok (by decide +kernel) t_1_108 t_1_113 t_1_7 rfl (by decide) ⟨Nat.le_of_ble_eq_true rfl, Nat.le_of_ble_eq_true rfl⟩ ?_
  refine s_dup C dX6_init_90 ?_
  refine s_callIN (as := []) (st := [vR (10, 0, 1), vI (1 : Int32), vR (9, 0, 0)]) (mc := 0) (ms := 0) (n1 := 14) (k1 := 11) C dX6_init_91 (i_X0_init G z l (i := 13) rfl (by decide) (by decide) _) (by decide) t_1_115 t_1_7 rfl t_1_116 m_X0_init ⟨Nat.le_of_ble_eq_true rfl, Nat.le_of_ble_eq_true rfl⟩ ⟨rfl, rfl⟩ ⟨Nat.le_of_ble_eq_true rfl, Nat.le_of_ble_eq_true rfl⟩ rfl (by decide) rfl (Nat.le_of_ble_eq_true rfl) ?_
  refine s_aast (i := 11) (i2 := 13) (j := 1) C dX6_init_94 rfl (by decide) rfl (by decide) rfl rfl rfl rfl (by decide) (by decide) rfl rfl ?_
  refine s_iinc (v := (2 : Int32)) (ls2 := [(1, vI (2 : Int32)), (0, vR (7, 0, 0))]) C 0 dX6_init_95 rfl (by decide) (by decide) rfl ?_
  refine s_goto C 76 dX6_init_98 (by decide) ?_
  refine s_iload_n C 0 1 dX6_init_76 rfl rfl ?_
  refine s_bipush (v := (12 : Int32)) C dX6_init_77 rfl ?_
  refine s_geF C 101 dX6_init_79 (by decide) (by decide) ?_
  refine s_aload_n C 1 0 dX6_init_82 rfl rfl ?_
  refine s_getR (i := 9) (kf := 1) (d2 := (9, 0, 0)) C dX6_init_83 rfl (by decide) rfl rfl f_X6 (by decide) t_1_156 rfl (by decide +kernel) rfl ?_
  refine s_iload_n C 0 1 dX6_init_86 rfl rfl ?_
  refine s_new (d := (10, 0, 2)) (ty := tyX0) C dX6_init_87 rfl rfl rfl f_X0 tyX0_ok (by decide +kernel) t_1_108 t_1_113 t_1_7 rfl (by decide) ⟨Nat.le_of_ble_eq_true rfl, Nat.le_of_ble_eq_true rfl⟩ ?_
  refine s_dup C dX6_init_90 ?_
  refine s_callIN (as := []) (st := [vR (10, 0, 2), vI (2 : Int32), vR (9, 0, 0)]) (mc := 0) (ms := 0) (n1 := 15) (k1 := 12) C dX6_init_91 (i_X0_init G z l (i := 14) rfl (by decide) (by decide) _) (by decide) t_1_115 t_1_7 rfl t_1_116 m_X0_init ⟨Nat.le_of_ble_eq_true rfl, Nat.le_of_ble_eq_true rfl⟩ ⟨rfl, rfl⟩ ⟨Nat.le_of_ble_eq_true rfl, Nat.le_of_ble_eq_true rfl⟩ rfl (by decide) rfl (Nat.le_of_ble_eq_true rfl) ?_
  refine s_aast (i := 11) (i2 := 14) (j := 2) C dX6_init_94 rfl (by decide) rfl (by decide) rfl rfl rfl rfl (by decide) (by decide) rfl rfl ?_
  refine s_iinc (v := (3 : Int32)) (ls2 := [(1, vI (3 : Int32)), (0, vR (7, 0, 0))]) C 0 dX6_init_95 rfl (by decide) (by decide) rfl ?_
  refine s_goto C 76 dX6_init_98 (by decide) ?_
  refine s_iload_n C 0 1 dX6_init_76 rfl rfl ?_
  refine s_bipush (v := (12 : Int32)) C dX6_init_77 rfl ?_
  refine s_geF C 101 dX6_init_79 (by decide) (by decide) ?_
  refine s_aload_n C 1 0 dX6_init_82 rfl rfl ?_
  refine s_getR (i := 9) (kf := 1) (d2 := (9, 0, 0)) C dX6_init_83 rfl (by decide) rfl rfl f_X6 (by decide) t_1_156 rfl (by decide +kernel) rfl ?_
  refine s_iload_n C 0 1 dX6_init_86 rfl rfl ?_
  refine s_new (d := (10, 0, 3)) (ty := tyX0) C dX6_init_87 rfl rfl rfl f_X0 tyX0_ok (by decide +kernel) t_1_108 t_1_113 t_1_7 rfl (by decide) ⟨Nat.le_of_ble_eq_true rfl, Nat.le_of_ble_eq_true rfl⟩ ?_
  refine s_dup C dX6_init_90 ?_
  refine s_callIN (as := []) (st := [vR (10, 0, 3), vI (3 : Int32), vR (9, 0, 0)]) (mc := 0) (ms := 0) (n1 := 16) (k1 := 13) C dX6_init_91 (i_X0_init G z l (i := 15) rfl (by decide) (by decide) _) (by decide) t_1_115 t_1_7 rfl t_1_116 m_X0_init ⟨Nat.le_of_ble_eq_true rfl, Nat.le_of_ble_eq_true rfl⟩ ⟨rfl, rfl⟩ ⟨Nat.le_of_ble_eq_true rfl, Nat.le_of_ble_eq_true rfl⟩ rfl (by decide) rfl (Nat.le_of_ble_eq_true rfl) ?_
  refine s_aast (i := 11) (i2 := 15) (j := 3) C dX6_init_94 rfl (by decide) rfl (by decide) rfl rfl rfl rfl (by decide) (by decide) rfl rfl ?_
  refine s_iinc (v := (4 : Int32)) (ls2 := [(1, vI (4 : Int32)), (0, vR (7, 0, 0))]) C 0 dX6_init_95 rfl (by decide) (by decide) rfl ?_
  refine s_goto C 76 dX6_init_98 (by decide) ?_
  refine s_iload_n C 0 1 dX6_init_76 rfl rfl ?_
  refine s_bipush (v := (12 : Int32)) C dX6_init_77 rfl ?_
  refine s_geF C 101 dX6_init_79 (by decide) (by decide) ?_
  refine s_aload_n C 1 0 dX6_init_82 rfl rfl ?_
  refine s_getR (i := 9) (kf := 1) (d2 := (9, 0, 0)) C dX6_init_83 rfl (by decide) rfl rfl f_X6 (by decide) t_1_156 rfl (by decide +kernel) rfl ?_
  refine s_iload_n C 0 1 dX6_init_86 rfl rfl ?_
  refine s_new (d := (10, 0, 4)) (ty := tyX0) C dX6_init_87 rfl rfl rfl f_X0 tyX0_ok (by decide +kernel) t_1_108 t_1_113 t_1_7 rfl (by decide) ⟨Nat.le_of_ble_eq_true rfl, Nat.le_of_ble_eq_true rfl⟩ ?_
  refine s_dup C dX6_init_90 ?_
  refine s_callIN (as := []) (st := [vR (10, 0, 4), vI (4 : Int32), vR (9, 0, 0)]) (mc := 0) (ms := 0) (n1 := 17) (k1 := 14) C dX6_init_91 (i_X0_init G z l (i := 16) rfl (by decide) (by decide) _) (by decide) t_1_115 t_1_7 rfl t_1_116 m_X0_init ⟨Nat.le_of_ble_eq_true rfl, Nat.le_of_ble_eq_true rfl⟩ ⟨rfl, rfl⟩ ⟨Nat.le_of_ble_eq_true rfl, Nat.le_of_ble_eq_true rfl⟩ rfl (by decide) rfl (Nat.le_of_ble_eq_true rfl) ?_
  refine s_aast (i := 11) (i2 := 16) (j := 4) C dX6_init_94 rfl (by decide) rfl (by decide) rfl rfl rfl rfl (by decide) (by decide) rfl rfl ?_
  refine s_iinc (v := (5 : Int32)) (ls2 := [(1, vI (5 : Int32)), (0, vR (7, 0, 0))]) C 0 dX6_init_95 rfl (by decide) (by decide) rfl ?_
  refine s_goto C 76 dX6_init_98 (by decide) ?_
  refine s_iload_n C 0 1 dX6_init_76 rfl rfl ?_
  refine s_bipush (v := (12 : Int32)) C dX6_init_77 rfl ?_
  refine s_geF C 101 dX6_init_79 (by decide) (by decide) ?_
  refine s_aload_n C 1 0 dX6_init_82 rfl rfl ?_
  refine s_getR (i := 9) (kf := 1) (d2 := (9, 0, 0)) C dX6_init_83 rfl (by decide) rfl rfl f_X6 (by decide) t_1_156 rfl (by decide +kernel) rfl ?_
  refine s_iload_n C 0 1 dX6_init_86 rfl rfl ?_
  refine s_new (d := (10, 0, 5)) (ty := tyX0) C dX6_init_87 rfl rfl rfl f_X0 tyX0_ok (by decide +kernel) t_1_108 t_1_113 t_1_7 rfl (by decide) ⟨Nat.le_of_ble_eq_true rfl, Nat.le_of_ble_eq_true rfl⟩ ?_
  refine s_dup C dX6_init_90 ?_
  refine s_callIN (as := []) (st := [vR (10, 0, 5), vI (5 : Int32), vR (9, 0, 0)]) (mc := 0) (ms := 0) (n1 := 18) (k1 := 15) C dX6_init_91 (i_X0_init G z l (i := 17) rfl (by decide) (by decide) _) (by decide) t_1_115 t_1_7 rfl t_1_116 m_X0_init ⟨Nat.le_of_ble_eq_true rfl, Nat.le_of_ble_eq_true rfl⟩ ⟨rfl, rfl⟩ ⟨Nat.le_of_ble_eq_true rfl, Nat.le_of_ble_eq_true rfl⟩ rfl (by decide) rfl (Nat.le_of_ble_eq_true rfl) ?_
  refine s_aast (i := 11) (i2 := 17) (j := 5) C dX6_init_94 rfl (by decide) rfl (by decide) rfl rfl rfl rfl (by decide) (by decide) rfl rfl ?_
  refine s_iinc (v := (6 : Int32)) (ls2 := [(1, vI (6 : Int32)), (0, vR (7, 0, 0))]) C 0 dX6_init_95 rfl (by decide) (by decide) rfl ?_
  refine s_goto C 76 dX6_init_98 (by decide) ?_
  refine s_iload_n C 0 1 dX6_init_76 rfl rfl ?_
  refine s_bipush (v := (12 : Int32)) C dX6_init_77 rfl ?_
  refine s_geF C 101 dX6_init_79 (by decide) (by decide) ?_
  refine s_aload_n C 1 0 dX6_init_82 rfl rfl ?_
  refine s_getR (i := 9) (kf := 1) (d2 := (9, 0, 0)) C dX6_init_83 rfl (by decide) rfl rfl f_X6 (by decide) t_1_156 rfl (by decide +kernel) rfl ?_
  refine s_iload_n C 0 1 dX6_init_86 rfl rfl ?_
  refine s_new (d := (10, 0, 6)) (ty := tyX0) C dX6_init_87 rfl rfl rfl f_X0 tyX0_ok (by decide +kernel) t_1_108 t_1_113 t_1_7 rfl (by decide) ⟨Nat.le_of_ble_eq_true rfl, Nat.le_of_ble_eq_true rfl⟩ ?_
  refine s_dup C dX6_init_90 ?_
  refine s_callIN (as := []) (st := [vR (10, 0, 6), vI (6 : Int32), vR (9, 0, 0)]) (mc := 0) (ms := 0) (n1 := 19) (k1 := 16) C dX6_init_91 (i_X0_init G z l (i := 18) rfl (by decide) (by decide) _) (by decide) t_1_115 t_1_7 rfl t_1_116 m_X0_init ⟨Nat.le_of_ble_eq_true rfl, Nat.le_of_ble_eq_true rfl⟩ ⟨rfl, rfl⟩ ⟨Nat.le_of_ble_eq_true rfl, Nat.le_of_ble_eq_true rfl⟩ rfl (by decide) rfl (Nat.le_of_ble_eq_true rfl) ?_
  refine s_aast (i := 11) (i2 := 18) (j := 6) C dX6_init_94 rfl (by decide) rfl (by decide) rfl rfl rfl rfl (by decide) (by decide) rfl rfl ?_
  refine s_iinc (v := (7 : Int32)) (ls2 := [(1, vI (7 : Int32)), (0, vR (7, 0, 0))]) C 0 dX6_init_95 rfl (by decide) (by decide) rfl ?_
  refine s_goto C 76 dX6_init_98 (by decide) ?_
  refine s_iload_n C 0 1 dX6_init_76 rfl rfl ?_
  refine s_bipush (v := (12 : Int32)) C dX6_init_77 rfl ?_
  refine s_geF C 101 dX6_init_79 (by decide) (by decide) ?_
  refine s_aload_n C 1 0 dX6_init_82 rfl rfl ?_
  refine s_getR (i := 9) (kf := 1) (d2 := (9, 0, 0)) C dX6_init_83 rfl (by decide) rfl rfl f_X6 (by decide) t_1_156 rfl (by decide +kernel) rfl ?_
  refine s_iload_n C 0 1 dX6_init_86 rfl rfl ?_
  refine s_new (d := (10, 0, 7)) (ty := tyX0) C dX6_init_87 rfl rfl rfl f_X0 tyX0_ok (by decide +kernel) t_1_108 t_1_113 t_1_7 rfl (by decide) ⟨Nat.le_of_ble_eq_true rfl, Nat.le_of_ble_eq_true rfl⟩ ?_
  refine s_dup C dX6_init_90 ?_
  refine s_callIN (as := []) (st := [vR (10, 0, 7), vI (7 : Int32), vR (9, 0, 0)]) (mc := 0) (ms := 0) (n1 := 20) (k1 := 17) C dX6_init_91 (i_X0_init G z l (i := 19) rfl (by decide) (by decide) _) (by decide) t_1_115 t_1_7 rfl t_1_116 m_X0_init ⟨Nat.le_of_ble_eq_true rfl, Nat.le_of_ble_eq_true rfl⟩ ⟨rfl, rfl⟩ ⟨Nat.le_of_ble_eq_true rfl, Nat.le_of_ble_eq_true rfl⟩ rfl (by decide) rfl (Nat.le_of_ble_eq_true rfl) ?_
  refine s_aast (i := 11) (i2 := 19) (j := 7) C dX6_init_94 rfl (by decide) rfl (by decide) rfl rfl rfl rfl (by decide) (by decide) rfl rfl ?_
  refine s_iinc (v := (8 : Int32)) (ls2 := [(1, vI (8 : Int32)), (0, vR (7, 0, 0))]) C 0 dX6_init_95 rfl (by decide) (by decide) rfl ?_
  refine s_goto C 76 dX6_init_98 (by decide) ?_
  refine s_iload_n C 0 1 dX6_init_76 rfl rfl ?_
  refine s_bipush (v := (12 : Int32)) C dX6_init_77 rfl ?_
  refine s_geF C 101 dX6_init_79 (by decide) (by decide) ?_
  refine s_aload_n C 1 0 dX6_init_82 rfl rfl ?_
  refine s_getR (i := 9) (kf := 1) (d2 := (9, 0, 0)) C dX6_init_83 rfl (by decide) rfl rfl f_X6 (by decide) t_1_156 rfl (by decide +kernel) rfl ?_
  refine s_iload_n C 0 1 dX6_init_86 rfl rfl ?_
  refine s_new (d := (10, 0, 8)) (ty := tyX0) C dX6_init_87 rfl rfl rfl f_X0 tyX0_ok (by decide +kernel) t_1_108 t_1_113 t_1_7 rfl (by decide) ⟨Nat.le_of_ble_eq_true rfl, Nat.le_of_ble_eq_true rfl⟩ ?_
  refine s_dup C dX6_init_90 ?_
  refine s_callIN (as := []) (st := [vR (10, 0, 8), vI (8 : Int32), vR (9, 0, 0)]) (mc := 0) (ms := 0) (n1 := 21) (k1 := 18) C dX6_init_91 (i_X0_init G z l (i := 20) rfl (by decide) (by decide) _) (by decide) t_1_115 t_1_7 rfl t_1_116 m_X0_init ⟨Nat.le_of_ble_eq_true rfl, Nat.le_of_ble_eq_true rfl⟩ ⟨rfl, rfl⟩ ⟨Nat.le_of_ble_eq_true rfl, Nat.le_of_ble_eq_true rfl⟩ rfl (by decide) rfl (Nat.le_of_ble_eq_true rfl) ?_
  refine s_aast (i := 11) (i2 := 20) (j := 8) C dX6_init_94 rfl (by decide) rfl (by decide) rfl rfl rfl rfl (by decide) (by decide) rfl rfl ?_
  refine s_iinc (v := (9 : Int32)) (ls2 := [(1, vI (9 : Int32)), (0, vR (7, 0, 0))]) C 0 dX6_init_95 rfl (by decide) (by decide) rfl ?_
  refine s_goto C 76 dX6_init_98 (by decide) ?_
  refine s_iload_n C 0 1 dX6_init_76 rfl rfl ?_
  refine s_bipush (v := (12 : Int32)) C dX6_init_77 rfl ?_
  refine s_geF C 101 dX6_init_79 (by decide) (by decide) ?_
  refine s_aload_n C 1 0 dX6_init_82 rfl rfl ?_
  refine s_getR (i := 9) (kf := 1) (d2 := (9, 0, 0)) C dX6_init_83 rfl (by decide) rfl rfl f_X6 (by decide) t_1_156 rfl (by decide +kernel) rfl ?_
  refine s_iload_n C 0 1 dX6_init_86 rfl rfl ?_
  refine s_new (d := (10, 0, 9)) (ty := tyX0) C dX6_init_87 rfl rfl rfl f_X0 tyX0_ok (by decide +kernel) t_1_108 t_1_113 t_1_7 rfl (by decide) ⟨Nat.le_of_ble_eq_true rfl, Nat.le_of_ble_eq_true rfl⟩ ?_
  refine s_dup C dX6_init_90 ?_
  refine s_callIN (as := []) (st := [vR (10, 0, 9), vI (9 : Int32), vR (9, 0, 0)]) (mc := 0) (ms := 0) (n1 := 22) (k1 := 19) C dX6_init_91 (i_X0_init G z l (i := 21) rfl (by decide) (by decide) _) (by decide) t_1_115 t_1_7 rfl t_1_116 m_X0_init ⟨Nat.le_of_ble_eq_true rfl, Nat.le_of_ble_eq_true rfl⟩ ⟨rfl, rfl⟩ ⟨Nat.le_of_ble_eq_true rfl, Nat.le_of_ble_eq_true rfl⟩ rfl (by decide) rfl (Nat.le_of_ble_eq_true rfl) ?_
  refine s_aast (i := 11) (i2 := 21) (j := 9) C dX6_init_94 rfl (by decide) rfl (by decide) rfl rfl rfl rfl (by decide) (by decide) rfl rfl ?_
  refine s_iinc (v := (10 : Int32)) (ls2 := [(1, vI (10 : Int32)), (0, vR (7, 0, 0))]) C 0 dX6_init_95 rfl (by decide) (by decide) rfl ?_
  refine s_goto C 76 dX6_init_98 (by decide) ?_
  refine s_iload_n C 0 1 dX6_init_76 rfl rfl ?_
  refine s_bipush (v := (12 : Int32)) C dX6_init_77 rfl ?_
  refine s_geF C 101 dX6_init_79 (by decide) (by decide) ?_
  refine s_aload_n C 1 0 dX6_init_82 rfl rfl ?_
  refine s_getR (i := 9) (kf := 1) (d2 := (9, 0, 0)) C dX6_init_83 rfl (by decide) rfl rfl f_X6 (by decide) t_1_156 rfl (by decide +kernel) rfl ?_
  refine s_iload_n C 0 1 dX6_init_86 rfl rfl ?_
  refine s_new (d := (10, 0, 10)) (ty := tyX0) C dX6_init_87 rfl rfl rfl f_X0 tyX0_ok (by decide +kernel) t_1_108 t_1_113 t_1_7 rfl (by decide) ⟨Nat.le_of_ble_eq_true rfl, Nat.le_of_ble_eq_true rfl⟩ ?_
  refine s_dup C dX6_init_90 ?_
  refine s_callIN (as := []) (st := [vR (10, 0, 10), vI (10 : Int32), vR (9, 0, 0)]) (mc := 0) (ms := 0) (n1 := 23) (k1 := 20) C dX6_init_91 (i_X0_init G z l (i := 22) rfl (by decide) (by decide) _) (by decide) t_1_115 t_1_7 rfl t_1_116 m_X0_init ⟨Nat.le_of_ble_eq_true rfl, Nat.le_of_ble_eq_true rfl⟩ ⟨rfl, rfl⟩ ⟨Nat.le_of_ble_eq_true rfl, Nat.le_of_ble_eq_true rfl⟩ rfl (by decide) rfl (Nat.le_of_ble_eq_true rfl) ?_
  refine s_aast (i := 11) (i2 := 22) (j := 10) C dX6_init_94 rfl (by decide) rfl (by decide) rfl rfl rfl rfl (by decide) (by decide) rfl rfl ?_
  refine s_iinc (v := (11 : Int32)) (ls2 := [(1, vI (11 : Int32)), (0, vR (7, 0, 0))]) C 0 dX6_init_95 rfl (by decide) (by decide) rfl ?_
  refine s_goto C 76 dX6_init_98 (by decide) ?_
  refine s_iload_n C 0 1 dX6_init_76 rfl rfl ?_
  refine s_bipush (v := (12 : Int32)) C dX6_init_77 rfl ?_
  refine s_geF C 101 dX6_init_79 (by decide) (by decide) ?_
  refine s_aload_n C 1 0 dX6_init_82 rfl rfl ?_
  refine s_getR (i := 9) (kf := 1) (d2 := (9, 0, 0)) C dX6_init_83 rfl (by decide) rfl rfl f_X6 (by decide) t_1_156 rfl (by decide +kernel) rfl ?_
  refine s_iload_n C 0 1 dX6_init_86 rfl rfl ?_
  refine s_new (d := (10, 0, 11)) (ty := tyX0) C dX6_init_87 rfl rfl rfl f_X0 tyX0_ok (by decide +kernel) t_1_108 t_1_113 t_1_7 rfl (by decide) ⟨Nat.le_of_ble_eq_true rfl, Nat.le_of_ble_eq_true rfl⟩ ?_
  refine s_dup C dX6_init_90 ?_
  refine s_callIN (as := []) (st := [vR (10, 0, 11), vI (11 : Int32), vR (9, 0, 0)]) (mc := 0) (ms := 0) (n1 := 24) (k1 := 21) C dX6_init_91 (i_X0_init G z l (i := 23) rfl (by decide) (by decide) _) (by decide) t_1_115 t_1_7 rfl t_1_116 m_X0_init ⟨Nat.le_of_ble_eq_true rfl, Nat.le_of_ble_eq_true rfl⟩ ⟨rfl, rfl⟩ ⟨Nat.le_of_ble_eq_true rfl, Nat.le_of_ble_eq_true rfl⟩ rfl (by decide) rfl (Nat.le_of_ble_eq_true rfl) ?_
  refine s_aast (i := 11) (i2 := 23) (j := 11) C dX6_init_94 rfl (by decide) rfl (by decide) rfl rfl rfl rfl (by decide) (by decide) rfl rfl ?_
  refine s_iinc (v := (12 : Int32)) (ls2 := [(1, vI (12 : Int32)), (0, vR (7, 0, 0))]) C 0 dX6_init_95 rfl (by decide) (by decide) rfl ?_
  refine s_goto C 76 dX6_init_98 (by decide) ?_
  refine s_iload_n C 0 1 dX6_init_76 rfl rfl ?_
  refine s_bipush (v := (12 : Int32)) C dX6_init_77 rfl ?_
  refine s_geT C 101 dX6_init_79 (by decide) (by decide) ?_
  exact s_return C dX6_init_101 rfl rfl (by decide)
def k_X6_27 (σ : St) : St := (k_drop (10, 3, 11) (uR (k_drop (10, 3, 10) (uR (k_drop (10, 3, 9) (uR (k_drop (10, 3, 8) (uR (k_drop (10, 3, 7) (uR (k_drop (10, 3, 6) (uR (k_drop (10, 3, 5) (uR (k_drop (10, 3, 4) (uR (k_drop (10, 3, 3) (uR (k_drop (10, 3, 2) (uR (k_drop (10, 3, 1) (uR (k_drop (10, 3, 0) (uR (k_fill (8, 3, 0) (4 : Int32) (uI (uI (uI (uI (uI (uI (uI (uI (uI (uR σ (8, 3, 0) (fun _ => 0)) (7, 3, 0) 2 (0 : Int32)) (7, 3, 0) 3 (0 : Int32)) (7, 3, 0) 4 (0 : Int32)) (7, 3, 0) 5 (0 : Int32)) (7, 3, 0) 6 (0 : Int32)) (7, 3, 0) 7 (0 : Int32)) (7, 3, 0) 8 (0 : Int32)) (7, 3, 0) 9 (0 : Int32)) (7, 3, 0) 10 (0 : Int32)) 96) (10, 3, 0) (fun _ => 0))) (10, 3, 1) (fun _ => 0))) (10, 3, 2) (fun _ => 0))) (10, 3, 3) (fun _ => 0))) (10, 3, 4) (fun _ => 0))) (10, 3, 5) (fun _ => 0))) (10, 3, 6) (fun _ => 0))) (10, 3, 7) (fun _ => 0))) (10, 3, 8) (fun _ => 0))) (10, 3, 9) (fun _ => 0))) (10, 3, 10) (fun _ => 0))) (10, 3, 11) (fun _ => 0)))
set_option maxHeartbeats 4000000 in
set_option maxRecDepth 20000 in
theorem i_X6_27 (G : Gx) (z : Nat) (l : Launch) (σ : St) : SpS G z l yX6_init cX6_init 2 none (rmC 2 14 180) 27 24 [vR (7, 3, 0)] σ (va_Qv (fun b => b = k_X6_27 σ) (fun u => WdS G z 41 38 u) (AZ z)) 14 180 := by
  refine SpS_of (own := RX6) (by decide) rfl (Nat.le_of_ble_eq_true rfl) ?_
  intro p e s m args below meth c C hI
  show Rs G z p l e (rmC 2 14 180) s m args below meth c (MQ below _ args s 14 180 (AZ z)) 2 0 0 27 24 0 [(0, vR (7, 3, 0))] [] σ
  refine s_aload_n C 0 0 dX6_init_0 rfl rfl ?_
  refine s_objInit C dX6_init_1 t_1_107 t_1_27 t_1_28 ⟨Nat.le_of_ble_eq_true rfl, Nat.le_of_ble_eq_true rfl⟩ ?_
  refine s_aload_n C 0 0 dX6_init_4 rfl rfl ?_
  refine s_bipush (v := (96 : Int32)) C dX6_init_5 rfl ?_
  refine s_newa (d := (8, 3, 0)) (ty := .int) C dX6_init_7 rfl rfl (by decide) rfl rfl rfl (fun _ h => h) t_1_55 ⟨by decide, by decide, by decide⟩ rfl (by decide) ⟨Nat.le_of_ble_eq_true rfl, Nat.le_of_ble_eq_true rfl⟩ ?_
  refine s_putR (i := 26) (kf := 0) (ty0 := tyX6) C hI dX6_init_9 rfl (by decide) rfl rfl f_X6 tyX6_ok nmX6 (by decide) t_1_153 rfl rfl rfl rfl rfl (fun _ => rfl) (fun _ => rfl) ?_
  refine s_aload_n C 0 0 dX6_init_12 rfl rfl ?_
  refine s_bipush (v := (12 : Int32)) C dX6_init_13 rfl ?_
  refine s_newq (d := (9, 3, 0)) C dX6_init_15 rfl rfl rfl (by decide) (by decide +kernel) t_1_108 ⟨by decide, by decide, by decide⟩ rfl (by decide) ⟨Nat.le_of_ble_eq_true rfl, Nat.le_of_ble_eq_true rfl⟩ ?_
  refine s_putR (i := 26) (kf := 1) (ty0 := tyX6) C hI dX6_init_18 rfl (by decide) rfl rfl f_X6 tyX6_ok nmX6 (by decide) t_1_156 rfl rfl rfl rfl rfl (fun _ => rfl) (fun _ => rfl) ?_
  refine s_aload_n C 0 0 dX6_init_21 rfl rfl ?_
  refine s_iconst (v := (0 : Int32)) C dX6_init_22 rfl ?_
  refine s_putI (i := 26) (kf := 2) (ty0 := tyX6) C dX6_init_23 rfl (by decide) rfl rfl f_X6 tyX6_ok nmX6 (by decide) t_1_159 rfl rfl rfl rfl ?_
  refine s_aload_n C 0 0 dX6_init_26 rfl rfl ?_
  refine s_iconst (v := (0 : Int32)) C dX6_init_27 rfl ?_
  refine s_putI (i := 26) (kf := 3) (ty0 := tyX6) C dX6_init_28 rfl (by decide) rfl rfl f_X6 tyX6_ok nmX6 (by decide) t_1_161 rfl rfl rfl rfl ?_
  refine s_aload_n C 0 0 dX6_init_31 rfl rfl ?_
  refine s_iconst (v := (0 : Int32)) C dX6_init_32 rfl ?_
  refine s_putI (i := 26) (kf := 4) (ty0 := tyX6) C dX6_init_33 rfl (by decide) rfl rfl f_X6 tyX6_ok nmX6 (by decide) t_1_163 rfl rfl rfl rfl ?_
  refine s_aload_n C 0 0 dX6_init_36 rfl rfl ?_
  refine s_iconst (v := (0 : Int32)) C dX6_init_37 rfl ?_
  refine s_putI (i := 26) (kf := 5) (ty0 := tyX6) C dX6_init_38 rfl (by decide) rfl rfl f_X6 tyX6_ok nmX6 (by decide) t_1_165 rfl rfl rfl rfl ?_
  refine s_aload_n C 0 0 dX6_init_41 rfl rfl ?_
  refine s_iconst (v := (0 : Int32)) C dX6_init_42 rfl ?_
  refine s_putI (i := 26) (kf := 6) (ty0 := tyX6) C dX6_init_43 rfl (by decide) rfl rfl f_X6 tyX6_ok nmX6 (by decide) t_1_167 rfl rfl (nar_z (Or.inl rfl)) (fit_z (Or.inl rfl)) ?_
  refine s_aload_n C 0 0 dX6_init_46 rfl rfl ?_
  refine s_iconst (v := (0 : Int32)) C dX6_init_47 rfl ?_
  refine s_putI (i := 26) (kf := 7) (ty0 := tyX6) C dX6_init_48 rfl (by decide) rfl rfl f_X6 tyX6_ok nmX6 (by decide) t_1_169 rfl rfl rfl rfl ?_
  refine s_aload_n C 0 0 dX6_init_51 rfl rfl ?_
  refine s_iconst (v := (0 : Int32)) C dX6_init_52 rfl ?_
  refine s_putI (i := 26) (kf := 8) (ty0 := tyX6) C dX6_init_53 rfl (by decide) rfl rfl f_X6 tyX6_ok nmX6 (by decide) t_1_171 rfl rfl rfl rfl ?_
  refine s_aload_n C 0 0 dX6_init_56 rfl rfl ?_
  refine s_iconst (v := (0 : Int32)) C dX6_init_57 rfl ?_
  refine s_putI (i := 26) (kf := 9) (ty0 := tyX6) C dX6_init_58 rfl (by decide) rfl rfl f_X6 tyX6_ok nmX6 (by decide) t_1_173 rfl rfl rfl rfl ?_
  refine s_aload_n C 0 0 dX6_init_61 rfl rfl ?_
  refine s_iconst (v := (0 : Int32)) C dX6_init_62 rfl ?_
  refine s_putI (i := 26) (kf := 10) (ty0 := tyX6) C dX6_init_63 rfl (by decide) rfl rfl f_X6 tyX6_ok nmX6 (by decide) t_1_175 rfl rfl rfl rfl ?_
  refine s_aload_n C 0 0 dX6_init_66 rfl rfl ?_
  refine s_getR (i := 26) (kf := 0) (d2 := (8, 3, 0)) C dX6_init_67 rfl (by decide) rfl rfl f_X6 (by decide) t_1_153 rfl (by decide +kernel) rfl ?_
  refine s_iconst (v := (4 : Int32)) C dX6_init_70 rfl ?_
  refine s_callS (as := [vR (8, 3, 0), vI (4 : Int32)]) (st := []) C dX6_init_71 (i_fill G z l (i := 27) rfl (by decide) (by decide) (4 : Int32) _) t_1_110 t_1_111 t_1_6 t_1_112 m_J7_fill_53178 ⟨Nat.le_of_ble_eq_true rfl, Nat.le_of_ble_eq_true rfl⟩ ⟨rfl, rfl⟩ ⟨Nat.le_of_ble_eq_true rfl, Nat.le_of_ble_eq_true rfl⟩ rfl (by decide) rfl (Nat.le_of_ble_eq_true rfl) ?_
  refine s_iconst (v := (0 : Int32)) C dX6_init_74 rfl ?_
  refine s_istore_n (ls2 := [(1, vI (0 : Int32)), (0, vR (7, 3, 0))]) C dX6_init_75 1 rfl (by decide) rfl ?_
  refine s_iload_n C 0 1 dX6_init_76 rfl rfl ?_
  refine s_bipush (v := (12 : Int32)) C dX6_init_77 rfl ?_
  refine s_geF C 101 dX6_init_79 (by decide) (by decide) ?_
  refine s_aload_n C 1 0 dX6_init_82 rfl rfl ?_
  refine s_getR (i := 26) (kf := 1) (d2 := (9, 3, 0)) C dX6_init_83 rfl (by decide) rfl rfl f_X6 (by decide) t_1_156 rfl (by decide +kernel) rfl ?_
  refine s_iload_n C 0 1 dX6_init_86 rfl rfl ?_
  refine s_new (d := (10, 3, 0)) (ty := tyX0) C dX6_init_87 rfl rfl rfl f_X0 tyX0_ok (by decide +kernel) t_1_108 t_1_113 t_1_7 rfl (by decide) ⟨Nat.le_of_ble_eq_true rfl, Nat.le_of_ble_eq_true rfl⟩ ?_
  refine s_dup C dX6_init_90 ?_
  refine s_callIN (as := []) (st := [vR (10, 3, 0), vI (0 : Int32), vR (9, 3, 0)]) (mc := 0) (ms := 0) (n1 := 30) (k1 := 26) C dX6_init_91 (i_X0_init G z l (i := 29) rfl (by decide) (by decide) _) (by decide) t_1_115 t_1_7 rfl t_1_116 m_X0_init ⟨Nat.le_of_ble_eq_true rfl, Nat.le_of_ble_eq_true rfl⟩ ⟨rfl, rfl⟩ ⟨Nat.le_of_ble_eq_true rfl, Nat.le_of_ble_eq_true rfl⟩ rfl (by decide) rfl (Nat.le_of_ble_eq_true rfl) ?_
  refine s_aast (i := 28) (i2 := 29) (j := 0) C dX6_init_94 rfl (by decide) rfl (by decide) rfl rfl rfl rfl (by decide) (by decide) rfl rfl ?_
  refine s_iinc (v := (1 : Int32)) (ls2 := [(1, vI (1 : Int32)), (0, vR (7, 3, 0))]) C 0 dX6_init_95 rfl (by decide) (by decide) rfl ?_
  refine s_goto C 76 dX6_init_98 (by decide) ?_
  refine s_iload_n C 0 1 dX6_init_76 rfl rfl ?_
  refine s_bipush (v := (12 : Int32)) C dX6_init_77 rfl ?_
  refine s_geF C 101 dX6_init_79 (by decide) (by decide) ?_
  refine s_aload_n C 1 0 dX6_init_82 rfl rfl ?_
  refine s_getR (i := 26) (kf := 1) (d2 := (9, 3, 0)) C dX6_init_83 rfl (by decide) rfl rfl f_X6 (by decide) t_1_156 rfl (by decide +kernel) rfl ?_
  refine s_iload_n C 0 1 dX6_init_86 rfl rfl ?_
  refine s_new (d := (10, 3, 1)) (ty := tyX0) C dX6_init_87 rfl rfl rfl f_X0 tyX0_ok (by decide +kernel) t_1_108 t_1_113 t_1_7 rfl (by decide) ⟨Nat.le_of_ble_eq_true rfl, Nat.le_of_ble_eq_true rfl⟩ ?_
  refine s_dup C dX6_init_90 ?_
  refine s_callIN (as := []) (st := [vR (10, 3, 1), vI (1 : Int32), vR (9, 3, 0)]) (mc := 0) (ms := 0) (n1 := 31) (k1 := 27) C dX6_init_91 (i_X0_init G z l (i := 30) rfl (by decide) (by decide) _) (by decide) t_1_115 t_1_7 rfl t_1_116 m_X0_init ⟨Nat.le_of_ble_eq_true rfl, Nat.le_of_ble_eq_true rfl⟩ ⟨rfl, rfl⟩ ⟨Nat.le_of_ble_eq_true rfl, Nat.le_of_ble_eq_true rfl⟩ rfl (by decide) rfl (Nat.le_of_ble_eq_true rfl) ?_
  refine s_aast (i := 28) (i2 := 30) (j := 1) C dX6_init_94 rfl (by decide) rfl (by decide) rfl rfl rfl rfl (by decide) (by decide) rfl rfl ?_
  refine s_iinc (v := (2 : Int32)) (ls2 := [(1, vI (2 : Int32)), (0, vR (7, 3, 0))]) C 0 dX6_init_95 rfl (by decide) (by decide) rfl ?_
  refine s_goto C 76 dX6_init_98 (by decide) ?_
  refine s_iload_n C 0 1 dX6_init_76 rfl rfl ?_
  refine s_bipush (v := (12 : Int32)) C dX6_init_77 rfl ?_
  refine s_geF C 101 dX6_init_79 (by decide) (by decide) ?_
  refine s_aload_n C 1 0 dX6_init_82 rfl rfl ?_
  refine s_getR (i := 26) (kf := 1) (d2 := (9, 3, 0)) C dX6_init_83 rfl (by decide) rfl rfl f_X6 (by decide) t_1_156 rfl (by decide +kernel) rfl ?_
  refine s_iload_n C 0 1 dX6_init_86 rfl rfl ?_
  refine s_new (d := (10, 3, 2)) (ty := tyX0) C dX6_init_87 rfl rfl rfl f_X0 tyX0_ok (by decide +kernel) t_1_108 t_1_113 t_1_7 rfl (by decide) ⟨Nat.le_of_ble_eq_true rfl, Nat.le_of_ble_eq_true rfl⟩ ?_
  refine s_dup C dX6_init_90 ?_
  refine s_callIN (as := []) (st := [vR (10, 3, 2), vI (2 : Int32), vR (9, 3, 0)]) (mc := 0) (ms := 0) (n1 := 32) (k1 := 28) C dX6_init_91 (i_X0_init G z l (i := 31) rfl (by decide) (by decide) _) (by decide) t_1_115 t_1_7 rfl t_1_116 m_X0_init ⟨Nat.le_of_ble_eq_true rfl, Nat.le_of_ble_eq_true rfl⟩ ⟨rfl, rfl⟩ ⟨Nat.le_of_ble_eq_true rfl, Nat.le_of_ble_eq_true rfl⟩ rfl (by decide) rfl (Nat.le_of_ble_eq_true rfl) ?_
  refine s_aast (i := 28) (i2 := 31) (j := 2) C dX6_init_94 rfl (by decide) rfl (by decide) rfl rfl rfl rfl (by decide) (by decide) rfl rfl ?_
  refine s_iinc (v := (3 : Int32)) (ls2 := [(1, vI (3 : Int32)), (0, vR (7, 3, 0))]) C 0 dX6_init_95 rfl (by decide) (by decide) rfl ?_
  refine s_goto C 76 dX6_init_98 (by decide) ?_
  refine s_iload_n C 0 1 dX6_init_76 rfl rfl ?_
  refine s_bipush (v := (12 : Int32)) C dX6_init_77 rfl ?_
  refine s_geF C 101 dX6_init_79 (by decide) (by decide) ?_
  refine s_aload_n C 1 0 dX6_init_82 rfl rfl ?_
  refine s_getR (i := 26) (kf := 1) (d2 := (9, 3, 0)) C dX6_init_83 rfl (by decide) rfl rfl f_X6 (by decide) t_1_156 rfl (by decide +kernel) rfl ?_
  refine s_iload_n C 0 1 dX6_init_86 rfl rfl ?_
  refine s_new (d := (10, 3, 3)) (ty := tyX0) C dX6_init_87 rfl rfl rfl f_X0 tyX0_ok (by decide +kernel) t_1_108 t_1_113 t_1_7 rfl (by decide) ⟨Nat.le_of_ble_eq_true rfl, Nat.le_of_ble_eq_true rfl⟩ ?_
  refine s_dup C dX6_init_90 ?_
  refine s_callIN (as := []) (st := [vR (10, 3, 3), vI (3 : Int32), vR (9, 3, 0)]) (mc := 0) (ms := 0) (n1 := 33) (k1 := 29) C dX6_init_91 (i_X0_init G z l (i := 32) rfl (by decide) (by decide) _) (by decide) t_1_115 t_1_7 rfl t_1_116 m_X0_init ⟨Nat.le_of_ble_eq_true rfl, Nat.le_of_ble_eq_true rfl⟩ ⟨rfl, rfl⟩ ⟨Nat.le_of_ble_eq_true rfl, Nat.le_of_ble_eq_true rfl⟩ rfl (by decide) rfl (Nat.le_of_ble_eq_true rfl) ?_
  refine s_aast (i := 28) (i2 := 32) (j := 3) C dX6_init_94 rfl (by decide) rfl (by decide) rfl rfl rfl rfl (by decide) (by decide) rfl rfl ?_
  refine s_iinc (v := (4 : Int32)) (ls2 := [(1, vI (4 : Int32)), (0, vR (7, 3, 0))]) C 0 dX6_init_95 rfl (by decide) (by decide) rfl ?_
  refine s_goto C 76 dX6_init_98 (by decide) ?_
  refine s_iload_n C 0 1 dX6_init_76 rfl rfl ?_
  refine s_bipush (v := (12 : Int32)) C dX6_init_77 rfl ?_
  refine s_geF C 101 dX6_init_79 (by decide) (by decide) ?_
  refine s_aload_n C 1 0 dX6_init_82 rfl rfl ?_
  refine s_getR (i := 26) (kf := 1) (d2 := (9, 3, 0)) C dX6_init_83 rfl (by decide) rfl rfl f_X6 (by decide) t_1_156 rfl (by decide +kernel) rfl ?_
  refine s_iload_n C 0 1 dX6_init_86 rfl rfl ?_
  refine s_new (d := (10, 3, 4)) (ty := tyX0) C dX6_init_87 rfl rfl rfl f_X0 tyX0_ok (by decide +kernel) t_1_108 t_1_113 t_1_7 rfl (by decide) ⟨Nat.le_of_ble_eq_true rfl, Nat.le_of_ble_eq_true rfl⟩ ?_
  refine s_dup C dX6_init_90 ?_
  refine s_callIN (as := []) (st := [vR (10, 3, 4), vI (4 : Int32), vR (9, 3, 0)]) (mc := 0) (ms := 0) (n1 := 34) (k1 := 30) C dX6_init_91 (i_X0_init G z l (i := 33) rfl (by decide) (by decide) _) (by decide) t_1_115 t_1_7 rfl t_1_116 m_X0_init ⟨Nat.le_of_ble_eq_true rfl, Nat.le_of_ble_eq_true rfl⟩ ⟨rfl, rfl⟩ ⟨Nat.le_of_ble_eq_true rfl, Nat.le_of_ble_eq_true rfl⟩ rfl (by decide) rfl (Nat.le_of_ble_eq_true rfl) ?_
  refine s_aast (i := 28) (i2 := 33) (j := 4) C dX6_init_94 rfl (by decide) rfl (by decide) rfl rfl rfl rfl (by decide) (by decide) rfl rfl ?_
  refine s_iinc (v := (5 : Int32)) (ls2 := [(1, vI (5 : Int32)), (0, vR (7, 3, 0))]) C 0 dX6_init_95 rfl (by decide) (by decide) rfl ?_
  refine s_goto C 76 dX6_init_98 (by decide) ?_
  refine s_iload_n C 0 1 dX6_init_76 rfl rfl ?_
  refine s_bipush (v := (12 : Int32)) C dX6_init_77 rfl ?_
  refine s_geF C 101 dX6_init_79 (by decide) (by decide) ?_
  refine s_aload_n C 1 0 dX6_init_82 rfl rfl ?_
  refine s_getR (i := 26) (kf := 1) (d2 := (9, 3, 0)) C dX6_init_83 rfl (by decide) rfl rfl f_X6 (by decide) t_1_156 rfl (by decide +kernel) rfl ?_
  refine s_iload_n C 0 1 dX6_init_86 rfl rfl ?_
  refine s_new (d := (10, 3, 5)) (ty := tyX0) C dX6_init_87 rfl rfl rfl f_X0 tyX0_ok (by decide +kernel) t_1_108 t_1_113 t_1_7 rfl (by decide) ⟨Nat.le_of_ble_eq_true rfl, Nat.le_of_ble_eq_true rfl⟩ ?_
  refine s_dup C dX6_init_90 ?_
  refine s_callIN (as := []) (st := [vR (10, 3, 5), vI (5 : Int32), vR (9, 3, 0)]) (mc := 0) (ms := 0) (n1 := 35) (k1 := 31) C dX6_init_91 (i_X0_init G z l (i := 34) rfl (by decide) (by decide) _) (by decide) t_1_115 t_1_7 rfl t_1_116 m_X0_init ⟨Nat.le_of_ble_eq_true rfl, Nat.le_of_ble_eq_true rfl⟩ ⟨rfl, rfl⟩ ⟨Nat.le_of_ble_eq_true rfl, Nat.le_of_ble_eq_true rfl⟩ rfl (by decide) rfl (Nat.le_of_ble_eq_true rfl) ?_
  refine s_aast (i := 28) (i2 := 34) (j := 5) C dX6_init_94 rfl (by decide) rfl (by decide) rfl rfl rfl rfl (by decide) (by decide) rfl rfl ?_
  refine s_iinc (v := (6 : Int32)) (ls2 := [(1, vI (6 : Int32)), (0, vR (7, 3, 0))]) C 0 dX6_init_95 rfl (by decide) (by decide) rfl ?_
  refine s_goto C 76 dX6_init_98 (by decide) ?_
  refine s_iload_n C 0 1 dX6_init_76 rfl rfl ?_
  refine s_bipush (v := (12 : Int32)) C dX6_init_77 rfl ?_
  refine s_geF C 101 dX6_init_79 (by decide) (by decide) ?_
  refine s_aload_n C 1 0 dX6_init_82 rfl rfl ?_
  refine s_getR (i := 26) (kf := 1) (d2 := (9, 3, 0)) C dX6_init_83 rfl (by decide) rfl rfl f_X6 (by decide) t_1_156 rfl (by decide +kernel) rfl ?_
  refine s_iload_n C 0 1 dX6_init_86 rfl rfl ?_
  refine s_new (d := (10, 3, 6)) (ty := tyX0) C dX6_init_87 rfl rfl rfl f_X0 tyX0_ok (by decide +kernel) t_1_108 t_1_113 t_1_7 rfl (by decide) ⟨Nat.le_of_ble_eq_true rfl, Nat.le_of_ble_eq_true rfl⟩ ?_
  refine s_dup C dX6_init_90 ?_
  refine s_callIN (as := []) (st := [vR (10, 3, 6), vI (6 : Int32), vR (9, 3, 0)]) (mc := 0) (ms := 0) (n1 := 36) (k1 := 32) C dX6_init_91 (i_X0_init G z l (i := 35) rfl (by decide) (by decide) _) (by decide) t_1_115 t_1_7 rfl t_1_116 m_X0_init ⟨Nat.le_of_ble_eq_true rfl, Nat.le_of_ble_eq_true rfl⟩ ⟨rfl, rfl⟩ ⟨Nat.le_of_ble_eq_true rfl, Nat.le_of_ble_eq_true rfl⟩ rfl (by decide) rfl (Nat.le_of_ble_eq_true rfl) ?_
  refine s_aast (i := 28) (i2 := 35) (j := 6) C dX6_init_94 rfl (by decide) rfl (by decide) rfl rfl rfl rfl (by decide) (by decide) rfl rfl ?_
  refine s_iinc (v := (7 : Int32)) (ls2 := [(1, vI (7 : Int32)), (0, vR (7, 3, 0))]) C 0 dX6_init_95 rfl (by decide) (by decide) rfl ?_
  refine s_goto C 76 dX6_init_98 (by decide) ?_
  refine s_iload_n C 0 1 dX6_init_76 rfl rfl ?_
  refine s_bipush (v := (12 : Int32)) C dX6_init_77 rfl ?_
  refine s_geF C 101 dX6_init_79 (by decide) (by decide) ?_
  refine s_aload_n C 1 0 dX6_init_82 rfl rfl ?_
  refine s_getR (i := 26) (kf := 1) (d2 := (9, 3, 0)) C dX6_init_83 rfl (by decide) rfl rfl f_X6 (by decide) t_1_156 rfl (by decide +kernel) rfl ?_
  refine s_iload_n C 0 1 dX6_init_86 rfl rfl ?_
  refine s_new (d := (10, 3, 7)) (ty := tyX0) C dX6_init_87 rfl rfl rfl f_X0 tyX0_ok (by decide +kernel) t_1_108 t_1_113 t_1_7 rfl (by decide) ⟨Nat.le_of_ble_eq_true rfl, Nat.le_of_ble_eq_true rfl⟩ ?_
  refine s_dup C dX6_init_90 ?_
  refine s_callIN (as := []) (st := [vR (10, 3, 7), vI (7 : Int32), vR (9, 3, 0)]) (mc := 0) (ms := 0) (n1 := 37) (k1 := 33) C dX6_init_91 (i_X0_init G z l (i := 36) rfl (by decide) (by decide) _) (by decide) t_1_115 t_1_7 rfl t_1_116 m_X0_init ⟨Nat.le_of_ble_eq_true rfl, Nat.le_of_ble_eq_true rfl⟩ ⟨rfl, rfl⟩ ⟨Nat.le_of_ble_eq_true rfl, Nat.le_of_ble_eq_true rfl⟩ rfl (by decide) rfl (Nat.le_of_ble_eq_true rfl) ?_
  refine s_aast (i := 28) (i2 := 36) (j := 7) C dX6_init_94 rfl (by decide) rfl (by decide) rfl rfl rfl rfl (by decide) (by decide) rfl rfl ?_
  refine s_iinc (v := (8 : Int32)) (ls2 := [(1, vI (8 : Int32)), (0, vR (7, 3, 0))]) C 0 dX6_init_95 rfl (by decide) (by decide) rfl ?_
  refine s_goto C 76 dX6_init_98 (by decide) ?_
  refine s_iload_n C 0 1 dX6_init_76 rfl rfl ?_
  refine s_bipush (v := (12 : Int32)) C dX6_init_77 rfl ?_
  refine s_geF C 101 dX6_init_79 (by decide) (by decide) ?_
  refine s_aload_n C 1 0 dX6_init_82 rfl rfl ?_
  refine s_getR (i := 26) (kf := 1) (d2 := (9, 3, 0)) C dX6_init_83 rfl (by decide) rfl rfl f_X6 (by decide) t_1_156 rfl (by decide +kernel) rfl ?_
  refine s_iload_n C 0 1 dX6_init_86 rfl rfl ?_
  refine s_new (d := (10, 3, 8)) (ty := tyX0) C dX6_init_87 rfl rfl rfl f_X0 tyX0_ok (by decide +kernel) t_1_108 t_1_113 t_1_7 rfl (by decide) ⟨Nat.le_of_ble_eq_true rfl, Nat.le_of_ble_eq_true rfl⟩ ?_
  refine s_dup C dX6_init_90 ?_
  refine s_callIN (as := []) (st := [vR (10, 3, 8), vI (8 : Int32), vR (9, 3, 0)]) (mc := 0) (ms := 0) (n1 := 38) (k1 := 34) C dX6_init_91 (i_X0_init G z l (i := 37) rfl (by decide) (by decide) _) (by decide) t_1_115 t_1_7 rfl t_1_116 m_X0_init ⟨Nat.le_of_ble_eq_true rfl, Nat.le_of_ble_eq_true rfl⟩ ⟨rfl, rfl⟩ ⟨Nat.le_of_ble_eq_true rfl, Nat.le_of_ble_eq_true rfl⟩ rfl (by decide) rfl (Nat.le_of_ble_eq_true rfl) ?_
  refine s_aast (i := 28) (i2 := 37) (j := 8) C dX6_init_94 rfl (by decide) rfl (by decide) rfl rfl rfl rfl (by decide) (by decide) rfl rfl ?_
  refine s_iinc (v := (9 : Int32)) (ls2 := [(1, vI (9 : Int32)), (0, vR (7, 3, 0))]) C 0 dX6_init_95 rfl (by decide) (by decide) rfl ?_
  refine s_goto C 76 dX6_init_98 (by decide) ?_
  refine s_iload_n C 0 1 dX6_init_76 rfl rfl ?_
  refine s_bipush (v := (12 : Int32)) C dX6_init_77 rfl ?_
  refine s_geF C 101 dX6_init_79 (by decide) (by decide) ?_
  refine s_aload_n C 1 0 dX6_init_82 rfl rfl ?_
  refine s_getR (i := 26) (kf := 1) (d2 := (9, 3, 0)) C dX6_init_83 rfl (by decide) rfl rfl f_X6 (by decide) t_1_156 rfl (by decide +kernel) rfl ?_
  refine s_iload_n C 0 1 dX6_init_86 rfl rfl ?_
  refine s_new (d := (10, 3, 9)) (ty := tyX0) C dX6_init_87 rfl rfl rfl f_X0 tyX0_ok (by decide +kernel) t_1_108 t_1_113 t_1_7 rfl (by decide) ⟨Nat.le_of_ble_eq_true rfl, Nat.le_of_ble_eq_true rfl⟩ ?_
  refine s_dup C dX6_init_90 ?_
  refine s_callIN (as := []) (st := [vR (10, 3, 9), vI (9 : Int32), vR (9, 3, 0)]) (mc := 0) (ms := 0) (n1 := 39) (k1 := 35) C dX6_init_91 (i_X0_init G z l (i := 38) rfl (by decide) (by decide) _) (by decide) t_1_115 t_1_7 rfl t_1_116 m_X0_init ⟨Nat.le_of_ble_eq_true rfl, Nat.le_of_ble_eq_true rfl⟩ ⟨rfl, rfl⟩ ⟨Nat.le_of_ble_eq_true rfl, Nat.le_of_ble_eq_true rfl⟩ rfl (by decide) rfl (Nat.le_of_ble_eq_true rfl) ?_
  refine s_aast (i := 28) (i2 := 38) (j := 9) C dX6_init_94 rfl (by decide) rfl (by decide) rfl rfl rfl rfl (by decide) (by decide) rfl rfl ?_
  refine s_iinc (v := (10 : Int32)) (ls2 := [(1, vI (10 : Int32)), (0, vR (7, 3, 0))]) C 0 dX6_init_95 rfl (by decide) (by decide) rfl ?_
  refine s_goto C 76 dX6_init_98 (by decide) ?_
  refine s_iload_n C 0 1 dX6_init_76 rfl rfl ?_
  refine s_bipush (v := (12 : Int32)) C dX6_init_77 rfl ?_
  refine s_geF C 101 dX6_init_79 (by decide) (by decide) ?_
  refine s_aload_n C 1 0 dX6_init_82 rfl rfl ?_
  refine s_getR (i := 26) (kf := 1) (d2 := (9, 3, 0)) C dX6_init_83 rfl (by decide) rfl rfl f_X6 (by decide) t_1_156 rfl (by decide +kernel) rfl ?_
  refine s_iload_n C 0 1 dX6_init_86 rfl rfl ?_
  refine s_new (d := (10, 3, 10)) (ty := tyX0) C dX6_init_87 rfl rfl rfl f_X0 tyX0_ok (by decide +kernel) t_1_108 t_1_113 t_1_7 rfl (by decide) ⟨Nat.le_of_ble_eq_true rfl, Nat.le_of_ble_eq_true rfl⟩ ?_
  refine s_dup C dX6_init_90 ?_
  refine s_callIN (as := []) (st := [vR (10, 3, 10), vI (10 : Int32), vR (9, 3, 0)]) (mc := 0) (ms := 0) (n1 := 40) (k1 := 36) C dX6_init_91 (i_X0_init G z l (i := 39) rfl (by decide) (by decide) _) (by decide) t_1_115 t_1_7 rfl t_1_116 m_X0_init ⟨Nat.le_of_ble_eq_true rfl, Nat.le_of_ble_eq_true rfl⟩ ⟨rfl, rfl⟩ ⟨Nat.le_of_ble_eq_true rfl, Nat.le_of_ble_eq_true rfl⟩ rfl (by decide) rfl (Nat.le_of_ble_eq_true rfl) ?_
  refine s_aast (i := 28) (i2 := 39) (j := 10) C dX6_init_94 rfl (by decide) rfl (by decide) rfl rfl rfl rfl (by decide) (by decide) rfl rfl ?_
  refine s_iinc (v := (11 : Int32)) (ls2 := [(1, vI (11 : Int32)), (0, vR (7, 3, 0))]) C 0 dX6_init_95 rfl (by decide) (by decide) rfl ?_
  refine s_goto C 76 dX6_init_98 (by decide) ?_
  refine s_iload_n C 0 1 dX6_init_76 rfl rfl ?_
  refine s_bipush (v := (12 : Int32)) C dX6_init_77 rfl ?_
  refine s_geF C 101 dX6_init_79 (by decide) (by decide) ?_
  refine s_aload_n C 1 0 dX6_init_82 rfl rfl ?_
  refine s_getR (i := 26) (kf := 1) (d2 := (9, 3, 0)) C dX6_init_83 rfl (by decide) rfl rfl f_X6 (by decide) t_1_156 rfl (by decide +kernel) rfl ?_
  refine s_iload_n C 0 1 dX6_init_86 rfl rfl ?_
  refine s_new (d := (10, 3, 11)) (ty := tyX0) C dX6_init_87 rfl rfl rfl f_X0 tyX0_ok (by decide +kernel) t_1_108 t_1_113 t_1_7 rfl (by decide) ⟨Nat.le_of_ble_eq_true rfl, Nat.le_of_ble_eq_true rfl⟩ ?_
  refine s_dup C dX6_init_90 ?_
  refine s_callIN (as := []) (st := [vR (10, 3, 11), vI (11 : Int32), vR (9, 3, 0)]) (mc := 0) (ms := 0) (n1 := 41) (k1 := 37) C dX6_init_91 (i_X0_init G z l (i := 40) rfl (by decide) (by decide) _) (by decide) t_1_115 t_1_7 rfl t_1_116 m_X0_init ⟨Nat.le_of_ble_eq_true rfl, Nat.le_of_ble_eq_true rfl⟩ ⟨rfl, rfl⟩ ⟨Nat.le_of_ble_eq_true rfl, Nat.le_of_ble_eq_true rfl⟩ rfl (by decide) rfl (Nat.le_of_ble_eq_true rfl) ?_
  refine s_aast (i := 28) (i2 := 40) (j := 11) C dX6_init_94 rfl (by decide) rfl (by decide) rfl rfl rfl rfl (by decide) (by decide) rfl rfl ?_
  refine s_iinc (v := (12 : Int32)) (ls2 := [(1, vI (12 : Int32)), (0, vR (7, 3, 0))]) C 0 dX6_init_95 rfl (by decide) (by decide) rfl ?_
  refine s_goto C 76 dX6_init_98 (by decide) ?_
  refine s_iload_n C 0 1 dX6_init_76 rfl rfl ?_
  refine s_bipush (v := (12 : Int32)) C dX6_init_77 rfl ?_
  refine s_geT C 101 dX6_init_79 (by decide) (by decide) ?_
  exact s_return C dX6_init_101 rfl rfl (by decide)
def k_X2_26 (σ : St) : St := (uI (uI (uI (uI (uI (uI (uR (uR (k_X6_27 (uR σ (7, 3, 0) (fun _ => 0))) (14, 0, 0) (fun _ => 0)) (15, 0, 0) (fun _ => 0)) (13, 0, 0) 3 (0 : Int32)) (13, 0, 0) 4 (0 : Int32)) (13, 0, 0) 5 (0 : Int32)) (13, 0, 0) 6 (0 : Int32)) (13, 0, 0) 7 (-4 : Int32)) (13, 0, 0) 8 (-4 : Int32))
set_option maxHeartbeats 4000000 in
set_option maxRecDepth 20000 in
theorem i_X2_26 (G : Gx) (z : Nat) (l : Launch) (σ : St) : SpS G z l yX2_init cX2_init 1 none (rmC 3 17 383) 26 24 [vR (13, 0, 0)] σ (va_Qv (fun b => b = k_X2_26 σ) (fun u => WdS G z 43 41 u) (AZ z)) 17 383 := by
  refine SpS_of (own := RX2) (by decide) rfl (Nat.le_of_ble_eq_true rfl) ?_
  intro p e s m args below meth c C hI
  show Rs G z p l e (rmC 3 17 383) s m args below meth c (MQ below _ args s 17 383 (AZ z)) 1 0 0 26 24 0 [(0, vR (13, 0, 0))] [] σ
  refine s_aload_n C 0 0 dX2_init_0 rfl rfl ?_
  refine s_objInit C dX2_init_1 t_1_207 t_1_27 t_1_28 ⟨Nat.le_of_ble_eq_true rfl, Nat.le_of_ble_eq_true rfl⟩ ?_
  refine s_aload_n C 0 0 dX2_init_4 rfl rfl ?_
  refine s_new (d := (7, 3, 0)) (ty := tyX6) C dX2_init_5 rfl rfl rfl f_X6 tyX6_ok (by decide +kernel) t_1_208 t_1_103 t_1_5 rfl (by decide) ⟨Nat.le_of_ble_eq_true rfl, Nat.le_of_ble_eq_true rfl⟩ ?_
  refine s_dup C dX2_init_8 ?_
  refine s_callI (as := []) (st := [vR (7, 3, 0), vR (13, 0, 0)]) (mc := 14) (ms := 180) (n1 := 41) (k1 := 38) C dX2_init_9 (i_X6_27 G z l _) t_1_209 t_1_105 t_1_5 rfl t_1_106 m_X6_init ⟨Nat.le_of_ble_eq_true rfl, Nat.le_of_ble_eq_true rfl⟩ ⟨rfl, rfl⟩ ⟨Nat.le_of_ble_eq_true rfl, Nat.le_of_ble_eq_true rfl⟩ rfl (by decide) rfl (Nat.le_of_ble_eq_true rfl) ?_
  refine s_putR (i := 25) (kf := 0) (ty0 := tyX2) C hI dX2_init_12 rfl (by decide) rfl rfl f_X2 tyX2_ok nmX2 (by decide) t_1_210 rfl rfl rfl rfl rfl (fun _ => rfl) (fun _ => rfl) ?_
  refine s_aload_n C 0 0 dX2_init_15 rfl rfl ?_
  refine s_bipush (v := (96 : Int32)) C dX2_init_16 rfl ?_
  refine s_newa (d := (14, 0, 0)) (ty := .int) C dX2_init_18 rfl rfl (by decide) rfl rfl rfl (fun _ h => h) t_1_55 ⟨by decide, by decide, by decide⟩ rfl (by decide) ⟨Nat.le_of_ble_eq_true rfl, Nat.le_of_ble_eq_true rfl⟩ ?_
  refine s_putR (i := 25) (kf := 1) (ty0 := tyX2) C hI dX2_init_20 rfl (by decide) rfl rfl f_X2 tyX2_ok nmX2 (by decide) t_1_211 rfl rfl rfl rfl rfl (fun _ => rfl) (fun _ => rfl) ?_
  refine s_aload_n C 0 0 dX2_init_23 rfl rfl ?_
  refine s_bipush (v := (96 : Int32)) C dX2_init_24 rfl ?_
  refine s_newa (d := (15, 0, 0)) (ty := .int) C dX2_init_26 rfl rfl (by decide) rfl rfl rfl (fun _ h => h) t_1_55 ⟨by decide, by decide, by decide⟩ rfl (by decide) ⟨Nat.le_of_ble_eq_true rfl, Nat.le_of_ble_eq_true rfl⟩ ?_
  refine s_putR (i := 25) (kf := 2) (ty0 := tyX2) C hI dX2_init_28 rfl (by decide) rfl rfl f_X2 tyX2_ok nmX2 (by decide) t_1_212 rfl rfl rfl rfl rfl (fun _ => rfl) (fun _ => rfl) ?_
  refine s_aload_n C 0 0 dX2_init_31 rfl rfl ?_
  refine s_iconst (v := (0 : Int32)) C dX2_init_32 rfl ?_
  refine s_putI (i := 25) (kf := 3) (ty0 := tyX2) C dX2_init_33 rfl (by decide) rfl rfl f_X2 tyX2_ok nmX2 (by decide) t_1_213 rfl rfl rfl rfl ?_
  refine s_aload_n C 0 0 dX2_init_36 rfl rfl ?_
  refine s_iconst (v := (0 : Int32)) C dX2_init_37 rfl ?_
  refine s_putI (i := 25) (kf := 4) (ty0 := tyX2) C dX2_init_38 rfl (by decide) rfl rfl f_X2 tyX2_ok nmX2 (by decide) t_1_214 rfl rfl rfl rfl ?_
  refine s_aload_n C 0 0 dX2_init_41 rfl rfl ?_
  refine s_iconst (v := (0 : Int32)) C dX2_init_42 rfl ?_
  refine s_putI (i := 25) (kf := 5) (ty0 := tyX2) C dX2_init_43 rfl (by decide) rfl rfl f_X2 tyX2_ok nmX2 (by decide) t_1_215 rfl rfl rfl rfl ?_
  refine s_aload_n C 0 0 dX2_init_46 rfl rfl ?_
  refine s_iconst (v := (0 : Int32)) C dX2_init_47 rfl ?_
  refine s_putI (i := 25) (kf := 6) (ty0 := tyX2) C dX2_init_48 rfl (by decide) rfl rfl f_X2 tyX2_ok nmX2 (by decide) t_1_216 rfl rfl rfl rfl ?_
  refine s_aload_n C 0 0 dX2_init_51 rfl rfl ?_
  refine s_bipush (v := (-4 : Int32)) C dX2_init_52 rfl ?_
  refine s_putI (i := 25) (kf := 7) (ty0 := tyX2) C dX2_init_54 rfl (by decide) rfl rfl f_X2 tyX2_ok nmX2 (by decide) t_1_218 rfl rfl rfl rfl ?_
  refine s_aload_n C 0 0 dX2_init_57 rfl rfl ?_
  refine s_bipush (v := (-4 : Int32)) C dX2_init_58 rfl ?_
  refine s_putI (i := 25) (kf := 8) (ty0 := tyX2) C dX2_init_60 rfl (by decide) rfl rfl f_X2 tyX2_ok nmX2 (by decide) t_1_220 rfl rfl rfl rfl ?_
  exact s_return C dX2_init_63 rfl rfl (by decide)
def k_X3_44 (σ : St) : St := (uI (uI (uR (k_drop (10, 4, 0) (uR σ (10, 4, 0) (fun _ => 0))) (17, 0, 0) (fun _ => 0)) (16, 0, 0) 2 (0 : Int32)) (16, 0, 0) 3 (0 : Int32))
set_option maxHeartbeats 4000000 in
set_option maxRecDepth 20000 in
theorem i_X3_44 (G : Gx) (z : Nat) (l : Launch) (σ : St) : SpS G z l yX3_init cX3_init 1 none (rmC 2 2 390) 44 42 [vR (16, 0, 0)] σ (va_Qv (fun b => b = k_X3_44 σ) (fun u => WdS G z 46 44 u) (AZ z)) 2 390 := by
  refine SpS_of (own := RX3) (by decide) rfl (Nat.le_of_ble_eq_true rfl) ?_
  intro p e s m args below meth c C hI
  show Rs G z p l e (rmC 2 2 390) s m args below meth c (MQ below _ args s 2 390 (AZ z)) 1 0 0 44 42 0 [(0, vR (16, 0, 0))] [] σ
  refine s_aload_n C 0 0 dX3_init_0 rfl rfl ?_
  refine s_objInit C dX3_init_1 t_2_6 t_1_27 t_1_28 ⟨Nat.le_of_ble_eq_true rfl, Nat.le_of_ble_eq_true rfl⟩ ?_
  refine s_aload_n C 0 0 dX3_init_4 rfl rfl ?_
  refine s_new (d := (10, 4, 0)) (ty := tyX0) C dX3_init_5 rfl rfl rfl f_X0 tyX0_ok (by decide +kernel) t_2_7 t_1_113 t_1_7 rfl (by decide) ⟨Nat.le_of_ble_eq_true rfl, Nat.le_of_ble_eq_true rfl⟩ ?_
  refine s_dup C dX3_init_8 ?_
  refine s_callIN (as := []) (st := [vR (10, 4, 0), vR (16, 0, 0)]) (mc := 0) (ms := 0) (n1 := 45) (k1 := 42) C dX3_init_9 (i_X0_init G z l (i := 44) rfl (by decide) (by decide) _) (by decide) t_1_115 t_1_7 rfl t_1_116 m_X0_init ⟨Nat.le_of_ble_eq_true rfl, Nat.le_of_ble_eq_true rfl⟩ ⟨rfl, rfl⟩ ⟨Nat.le_of_ble_eq_true rfl, Nat.le_of_ble_eq_true rfl⟩ rfl (by decide) rfl (Nat.le_of_ble_eq_true rfl) ?_
  refine s_putR (i := 43) (kf := 0) (ty0 := tyX3) C hI dX3_init_12 rfl (by decide) rfl rfl f_X3 tyX3_ok nmX3 (by decide) t_2_9 rfl rfl rfl rfl rfl (fun _ => rfl) (fun _ => rfl) ?_
  refine s_aload_n C 0 0 dX3_init_15 rfl rfl ?_
  refine s_sipush (v := (384 : Int32)) C dX3_init_16 rfl ?_
  refine s_newa (d := (17, 0, 0)) (ty := .int) C dX3_init_19 rfl rfl (by decide) rfl rfl rfl (fun _ h => h) t_1_55 ⟨by decide, by decide, by decide⟩ rfl (by decide) ⟨Nat.le_of_ble_eq_true rfl, Nat.le_of_ble_eq_true rfl⟩ ?_
  refine s_putR (i := 43) (kf := 1) (ty0 := tyX3) C hI dX3_init_21 rfl (by decide) rfl rfl f_X3 tyX3_ok nmX3 (by decide) t_2_10 rfl rfl rfl rfl rfl (fun _ => rfl) (fun _ => rfl) ?_
  refine s_aload_n C 0 0 dX3_init_24 rfl rfl ?_
  refine s_iconst (v := (0 : Int32)) C dX3_init_25 rfl ?_
  refine s_putI (i := 43) (kf := 2) (ty0 := tyX3) C dX3_init_26 rfl (by decide) rfl rfl f_X3 tyX3_ok nmX3 (by decide) t_2_11 rfl rfl rfl rfl ?_
  refine s_aload_n C 0 0 dX3_init_29 rfl rfl ?_
  refine s_iconst (v := (0 : Int32)) C dX3_init_30 rfl ?_
  refine s_putI (i := 43) (kf := 3) (ty0 := tyX3) C dX3_init_31 rfl (by decide) rfl rfl f_X3 tyX3_ok nmX3 (by decide) t_2_13 rfl rfl rfl rfl ?_
  exact s_return C dX3_init_34 rfl rfl (by decide)
def k_X4_47 (σ : St) : St := (uRL (uRL σ (19, 0, 0) (fun _ => 0)) (19, 1, 0) (fun _ => 0))
set_option maxHeartbeats 4000000 in
set_option maxRecDepth 20000 in
theorem i_X4_47 (G : Gx) (z : Nat) (l : Launch) (σ : St) : SpS G z l yX4_init cX4_init 1 none (rmC 1 2 192) 47 45 [vR (18, 0, 0)] σ (va_Qv (fun b => b = k_X4_47 σ) (fun u => WdS G z 49 47 u) (AZ z)) 2 192 := by
  refine SpS_of (own := RX4) (by decide) rfl (Nat.le_of_ble_eq_true rfl) ?_
  intro p e s m args below meth c C hI
  show Rs G z p l e (rmC 1 2 192) s m args below meth c (MQ below _ args s 2 192 (AZ z)) 1 0 0 47 45 0 [(0, vR (18, 0, 0))] [] σ
  refine s_aload_n C 0 0 dX4_init_0 rfl rfl ?_
  refine s_objInit C dX4_init_1 t_2_29 t_1_27 t_1_28 ⟨Nat.le_of_ble_eq_true rfl, Nat.le_of_ble_eq_true rfl⟩ ?_
  refine s_aload_n C 0 0 dX4_init_4 rfl rfl ?_
  refine s_bipush (v := (96 : Int32)) C dX4_init_5 rfl ?_
  refine s_newJ (d := (19, 0, 0)) C dX4_init_7 rfl rfl t_2_37 ⟨by decide, by decide, by decide⟩ rfl (by decide) ⟨Nat.le_of_ble_eq_true rfl, Nat.le_of_ble_eq_true rfl⟩ ?_
  refine s_putR (i := 46) (kf := 0) (ty0 := tyX4) C hI dX4_init_9 rfl (by decide) rfl rfl f_X4 tyX4_ok nmX4 (by decide) t_2_30 rfl rfl rfl rfl rfl (fun _ => rfl) (fun _ => rfl) ?_
  refine s_aload_n C 0 0 dX4_init_12 rfl rfl ?_
  refine s_bipush (v := (96 : Int32)) C dX4_init_13 rfl ?_
  refine s_newJ (d := (19, 1, 0)) C dX4_init_15 rfl rfl t_2_37 ⟨by decide, by decide, by decide⟩ rfl (by decide) ⟨Nat.le_of_ble_eq_true rfl, Nat.le_of_ble_eq_true rfl⟩ ?_
  refine s_putR (i := 46) (kf := 1) (ty0 := tyX4) C hI dX4_init_17 rfl (by decide) rfl rfl f_X4 tyX4_ok nmX4 (by decide) t_2_31 rfl rfl rfl rfl rfl (fun _ => rfl) (fun _ => rfl) ?_
  exact s_return C dX4_init_20 rfl rfl (by decide)
def k_X9_50 (σ : St) : St := (uI (uR (uR (uR (uR σ (21, 0, 0) (fun _ => 0)) (22, 0, 0) (fun _ => 0)) (23, 0, 0) (fun _ => 0)) (24, 0, 0) (fun _ => 0)) (20, 0, 0) 4 (0 : Int32))
set_option maxHeartbeats 4000000 in
set_option maxRecDepth 20000 in
theorem i_X9_50 (G : Gx) (z : Nat) (l : Launch) (σ : St) : SpS G z l yX9_init cX9_init 1 none (rmC 1 4 48) 50 48 [vR (20, 0, 0)] σ (va_Qv (fun b => b = k_X9_50 σ) (fun u => WdS G z 54 52 u) (AZ z)) 4 48 := by
  refine SpS_of (own := RX9) (by decide) rfl (Nat.le_of_ble_eq_true rfl) ?_
  intro p e s m args below meth c C hI
  show Rs G z p l e (rmC 1 4 48) s m args below meth c (MQ below _ args s 4 48 (AZ z)) 1 0 0 50 48 0 [(0, vR (20, 0, 0))] [] σ
  refine s_aload_n C 0 0 dX9_init_0 rfl rfl ?_
  refine s_objInit C dX9_init_1 t_2_43 t_1_27 t_1_28 ⟨Nat.le_of_ble_eq_true rfl, Nat.le_of_ble_eq_true rfl⟩ ?_
  refine s_aload_n C 0 0 dX9_init_4 rfl rfl ?_
  refine s_bipush (v := (12 : Int32)) C dX9_init_5 rfl ?_
  refine s_newa (d := (21, 0, 0)) (ty := .int) C dX9_init_7 rfl rfl (by decide) rfl rfl rfl (fun _ h => h) t_1_55 ⟨by decide, by decide, by decide⟩ rfl (by decide) ⟨Nat.le_of_ble_eq_true rfl, Nat.le_of_ble_eq_true rfl⟩ ?_
  refine s_putR (i := 49) (kf := 0) (ty0 := tyX9) C hI dX9_init_9 rfl (by decide) rfl rfl f_X9 tyX9_ok nmX9 (by decide) t_2_44 rfl rfl rfl rfl rfl (fun _ => rfl) (fun _ => rfl) ?_
  refine s_aload_n C 0 0 dX9_init_12 rfl rfl ?_
  refine s_bipush (v := (12 : Int32)) C dX9_init_13 rfl ?_
  refine s_newa (d := (22, 0, 0)) (ty := .int) C dX9_init_15 rfl rfl (by decide) rfl rfl rfl (fun _ h => h) t_1_55 ⟨by decide, by decide, by decide⟩ rfl (by decide) ⟨Nat.le_of_ble_eq_true rfl, Nat.le_of_ble_eq_true rfl⟩ ?_
  refine s_putR (i := 49) (kf := 1) (ty0 := tyX9) C hI dX9_init_17 rfl (by decide) rfl rfl f_X9 tyX9_ok nmX9 (by decide) t_2_45 rfl rfl rfl rfl rfl (fun _ => rfl) (fun _ => rfl) ?_
  refine s_aload_n C 0 0 dX9_init_20 rfl rfl ?_
  refine s_bipush (v := (12 : Int32)) C dX9_init_21 rfl ?_
  refine s_newa (d := (23, 0, 0)) (ty := .int) C dX9_init_23 rfl rfl (by decide) rfl rfl rfl (fun _ h => h) t_1_55 ⟨by decide, by decide, by decide⟩ rfl (by decide) ⟨Nat.le_of_ble_eq_true rfl, Nat.le_of_ble_eq_true rfl⟩ ?_
  refine s_putR (i := 49) (kf := 2) (ty0 := tyX9) C hI dX9_init_25 rfl (by decide) rfl rfl f_X9 tyX9_ok nmX9 (by decide) t_2_46 rfl rfl rfl rfl rfl (fun _ => rfl) (fun _ => rfl) ?_
  refine s_aload_n C 0 0 dX9_init_28 rfl rfl ?_
  refine s_bipush (v := (12 : Int32)) C dX9_init_29 rfl ?_
  refine s_newa (d := (24, 0, 0)) (ty := .boolean) C dX9_init_31 rfl rfl (by decide) rfl rfl rfl (fun _ h => h) t_1_99 ⟨by decide, by decide, by decide⟩ rfl (by decide) ⟨Nat.le_of_ble_eq_true rfl, Nat.le_of_ble_eq_true rfl⟩ ?_
  refine s_putR (i := 49) (kf := 3) (ty0 := tyX9) C hI dX9_init_33 rfl (by decide) rfl rfl f_X9 tyX9_ok nmX9 (by decide) t_2_47 rfl rfl rfl rfl rfl (fun _ => rfl) (fun _ => rfl) ?_
  refine s_aload_n C 0 0 dX9_init_36 rfl rfl ?_
  refine s_iconst (v := (0 : Int32)) C dX9_init_37 rfl ?_
  refine s_putI (i := 49) (kf := 4) (ty0 := tyX9) C dX9_init_38 rfl (by decide) rfl rfl f_X9 tyX9_ok nmX9 (by decide) t_2_48 rfl rfl rfl rfl ?_
  exact s_return C dX9_init_41 rfl rfl (by decide)
def k_X6_57 (σ : St) : St := (k_drop (10, 1, 11) (uR (k_drop (10, 1, 10) (uR (k_drop (10, 1, 9) (uR (k_drop (10, 1, 8) (uR (k_drop (10, 1, 7) (uR (k_drop (10, 1, 6) (uR (k_drop (10, 1, 5) (uR (k_drop (10, 1, 4) (uR (k_drop (10, 1, 3) (uR (k_drop (10, 1, 2) (uR (k_drop (10, 1, 1) (uR (k_drop (10, 1, 0) (uR (k_fill (8, 1, 0) (4 : Int32) (uI (uI (uI (uI (uI (uI (uI (uI (uI (uR σ (8, 1, 0) (fun _ => 0)) (7, 1, 0) 2 (0 : Int32)) (7, 1, 0) 3 (0 : Int32)) (7, 1, 0) 4 (0 : Int32)) (7, 1, 0) 5 (0 : Int32)) (7, 1, 0) 6 (0 : Int32)) (7, 1, 0) 7 (0 : Int32)) (7, 1, 0) 8 (0 : Int32)) (7, 1, 0) 9 (0 : Int32)) (7, 1, 0) 10 (0 : Int32)) 96) (10, 1, 0) (fun _ => 0))) (10, 1, 1) (fun _ => 0))) (10, 1, 2) (fun _ => 0))) (10, 1, 3) (fun _ => 0))) (10, 1, 4) (fun _ => 0))) (10, 1, 5) (fun _ => 0))) (10, 1, 6) (fun _ => 0))) (10, 1, 7) (fun _ => 0))) (10, 1, 8) (fun _ => 0))) (10, 1, 9) (fun _ => 0))) (10, 1, 10) (fun _ => 0))) (10, 1, 11) (fun _ => 0)))
set_option maxHeartbeats 4000000 in
set_option maxRecDepth 20000 in
theorem i_X6_57 (G : Gx) (z : Nat) (l : Launch) (σ : St) : SpS G z l yX6_init cX6_init 2 none (rmC 2 14 180) 57 54 [vR (7, 1, 0)] σ (va_Qv (fun b => b = k_X6_57 σ) (fun u => WdS G z 71 68 u) (AZ z)) 14 180 := by
  refine SpS_of (own := RX6) (by decide) rfl (Nat.le_of_ble_eq_true rfl) ?_
  intro p e s m args below meth c C hI
  show Rs G z p l e (rmC 2 14 180) s m args below meth c (MQ below _ args s 14 180 (AZ z)) 2 0 0 57 54 0 [(0, vR (7, 1, 0))] [] σ
  refine s_aload_n C 0 0 dX6_init_0 rfl rfl ?_
  refine s_objInit C dX6_init_1 t_1_107 t_1_27 t_1_28 ⟨Nat.le_of_ble_eq_true rfl, Nat.le_of_ble_eq_true rfl⟩ ?_
  refine s_aload_n C 0 0 dX6_init_4 rfl rfl ?_
  refine s_bipush (v := (96 : Int32)) C dX6_init_5 rfl ?_
  refine s_newa (d := (8, 1, 0)) (ty := .int) C dX6_init_7 rfl rfl (by decide) rfl rfl rfl (fun _ h => h) t_1_55 ⟨by decide, by decide, by decide⟩ rfl (by decide) ⟨Nat.le_of_ble_eq_true rfl, Nat.le_of_ble_eq_true rfl⟩ ?_
  refine s_putR (i := 56) (kf := 0) (ty0 := tyX6) C hI dX6_init_9 rfl (by decide) rfl rfl f_X6 tyX6_ok nmX6 (by decide) t_1_153 rfl rfl rfl rfl rfl (fun _ => rfl) (fun _ => rfl) ?_
  refine s_aload_n C 0 0 dX6_init_12 rfl rfl ?_
  refine s_bipush (v := (12 : Int32)) C dX6_init_13 rfl ?_
  refine s_newq (d := (9, 1, 0)) C dX6_init_15 rfl rfl rfl (by decide) (by decide +kernel) t_1_108 ⟨by decide, by decide, by decide⟩ rfl (by decide) ⟨Nat.le_of_ble_eq_true rfl, Nat.le_of_ble_eq_true rfl⟩ ?_
  refine s_putR (i := 56) (kf := 1) (ty0 := tyX6) C hI dX6_init_18 rfl (by decide) rfl rfl f_X6 tyX6_ok nmX6 (by decide) t_1_156 rfl rfl rfl rfl rfl (fun _ => rfl) (fun _ => rfl) ?_
  refine s_aload_n C 0 0 dX6_init_21 rfl rfl ?_
  refine s_iconst (v := (0 : Int32)) C dX6_init_22 rfl ?_
  refine s_putI (i := 56) (kf := 2) (ty0 := tyX6) C dX6_init_23 rfl (by decide) rfl rfl f_X6 tyX6_ok nmX6 (by decide) t_1_159 rfl rfl rfl rfl ?_
  refine s_aload_n C 0 0 dX6_init_26 rfl rfl ?_
  refine s_iconst (v := (0 : Int32)) C dX6_init_27 rfl ?_
  refine s_putI (i := 56) (kf := 3) (ty0 := tyX6) C dX6_init_28 rfl (by decide) rfl rfl f_X6 tyX6_ok nmX6 (by decide) t_1_161 rfl rfl rfl rfl ?_
  refine s_aload_n C 0 0 dX6_init_31 rfl rfl ?_
  refine s_iconst (v := (0 : Int32)) C dX6_init_32 rfl ?_
  refine s_putI (i := 56) (kf := 4) (ty0 := tyX6) C dX6_init_33 rfl (by decide) rfl rfl f_X6 tyX6_ok nmX6 (by decide) t_1_163 rfl rfl rfl rfl ?_
  refine s_aload_n C 0 0 dX6_init_36 rfl rfl ?_
  refine s_iconst (v := (0 : Int32)) C dX6_init_37 rfl ?_
  refine s_putI (i := 56) (kf := 5) (ty0 := tyX6) C dX6_init_38 rfl (by decide) rfl rfl f_X6 tyX6_ok nmX6 (by decide) t_1_165 rfl rfl rfl rfl ?_
  refine s_aload_n C 0 0 dX6_init_41 rfl rfl ?_
  refine s_iconst (v := (0 : Int32)) C dX6_init_42 rfl ?_
  refine s_putI (i := 56) (kf := 6) (ty0 := tyX6) C dX6_init_43 rfl (by decide) rfl rfl f_X6 tyX6_ok nmX6 (by decide) t_1_167 rfl rfl (nar_z (Or.inl rfl)) (fit_z (Or.inl rfl)) ?_
  refine s_aload_n C 0 0 dX6_init_46 rfl rfl ?_
  refine s_iconst (v := (0 : Int32)) C dX6_init_47 rfl ?_
  refine s_putI (i := 56) (kf := 7) (ty0 := tyX6) C dX6_init_48 rfl (by decide) rfl rfl f_X6 tyX6_ok nmX6 (by decide) t_1_169 rfl rfl rfl rfl ?_
  refine s_aload_n C 0 0 dX6_init_51 rfl rfl ?_
  refine s_iconst (v := (0 : Int32)) C dX6_init_52 rfl ?_
  refine s_putI (i := 56) (kf := 8) (ty0 := tyX6) C dX6_init_53 rfl (by decide) rfl rfl f_X6 tyX6_ok nmX6 (by decide) t_1_171 rfl rfl rfl rfl ?_
  refine s_aload_n C 0 0 dX6_init_56 rfl rfl ?_
  refine s_iconst (v := (0 : Int32)) C dX6_init_57 rfl ?_
  refine s_putI (i := 56) (kf := 9) (ty0 := tyX6) C dX6_init_58 rfl (by decide) rfl rfl f_X6 tyX6_ok nmX6 (by decide) t_1_173 rfl rfl rfl rfl ?_
  refine s_aload_n C 0 0 dX6_init_61 rfl rfl ?_
  refine s_iconst (v := (0 : Int32)) C dX6_init_62 rfl ?_
  refine s_putI (i := 56) (kf := 10) (ty0 := tyX6) C dX6_init_63 rfl (by decide) rfl rfl f_X6 tyX6_ok nmX6 (by decide) t_1_175 rfl rfl rfl rfl ?_
  refine s_aload_n C 0 0 dX6_init_66 rfl rfl ?_
  refine s_getR (i := 56) (kf := 0) (d2 := (8, 1, 0)) C dX6_init_67 rfl (by decide) rfl rfl f_X6 (by decide) t_1_153 rfl (by decide +kernel) rfl ?_
  refine s_iconst (v := (4 : Int32)) C dX6_init_70 rfl ?_
  refine s_callS (as := [vR (8, 1, 0), vI (4 : Int32)]) (st := []) C dX6_init_71 (i_fill G z l (i := 57) rfl (by decide) (by decide) (4 : Int32) _) t_1_110 t_1_111 t_1_6 t_1_112 m_J7_fill_53178 ⟨Nat.le_of_ble_eq_true rfl, Nat.le_of_ble_eq_true rfl⟩ ⟨rfl, rfl⟩ ⟨Nat.le_of_ble_eq_true rfl, Nat.le_of_ble_eq_true rfl⟩ rfl (by decide) rfl (Nat.le_of_ble_eq_true rfl) ?_
  refine s_iconst (v := (0 : Int32)) C dX6_init_74 rfl ?_
  refine s_istore_n (ls2 := [(1, vI (0 : Int32)), (0, vR (7, 1, 0))]) C dX6_init_75 1 rfl (by decide) rfl ?_
  refine s_iload_n C 0 1 dX6_init_76 rfl rfl ?_
  refine s_bipush (v := (12 : Int32)) C dX6_init_77 rfl ?_
  refine s_geF C 101 dX6_init_79 (by decide) (by decide) ?_
  refine s_aload_n C 1 0 dX6_init_82 rfl rfl ?_
  refine s_getR (i := 56) (kf := 1) (d2 := (9, 1, 0)) C dX6_init_83 rfl (by decide) rfl rfl f_X6 (by decide) t_1_156 rfl (by decide +kernel) rfl ?_
  refine s_iload_n C 0 1 dX6_init_86 rfl rfl ?_
  refine s_new (d := (10, 1, 0)) (ty := tyX0) C dX6_init_87 rfl rfl rfl f_X0 tyX0_ok (by decide +kernel) t_1_108 t_1_113 t_1_7 rfl (by decide) ⟨Nat.le_of_ble_eq_true rfl, Nat.le_of_ble_eq_true rfl⟩ ?_
  refine s_dup C dX6_init_90 ?_
  refine s_callIN (as := []) (st := [vR (10, 1, 0), vI (0 : Int32), vR (9, 1, 0)]) (mc := 0) (ms := 0) (n1 := 60) (k1 := 56) C dX6_init_91 (i_X0_init G z l (i := 59) rfl (by decide) (by decide) _) (by decide) t_1_115 t_1_7 rfl t_1_116 m_X0_init ⟨Nat.le_of_ble_eq_true rfl, Nat.le_of_ble_eq_true rfl⟩ ⟨rfl, rfl⟩ ⟨Nat.le_of_ble_eq_true rfl, Nat.le_of_ble_eq_true rfl⟩ rfl (by decide) rfl (Nat.le_of_ble_eq_true rfl) ?_
  refine s_aast (i := 58) (i2 := 59) (j := 0) C dX6_init_94 rfl (by decide) rfl (by decide) rfl rfl rfl rfl (by decide) (by decide) rfl rfl ?_
  refine s_iinc (v := (1 : Int32)) (ls2 := [(1, vI (1 : Int32)), (0, vR (7, 1, 0))]) C 0 dX6_init_95 rfl (by decide) (by decide) rfl ?_
  refine s_goto C 76 dX6_init_98 (by decide) ?_
  refine s_iload_n C 0 1 dX6_init_76 rfl rfl ?_
  refine s_bipush (v := (12 : Int32)) C dX6_init_77 rfl ?_
  refine s_geF C 101 dX6_init_79 (by decide) (by decide) ?_
  refine s_aload_n C 1 0 dX6_init_82 rfl rfl ?_
  refine s_getR (i := 56) (kf := 1) (d2 := (9, 1, 0)) C dX6_init_83 rfl (by decide) rfl rfl f_X6 (by decide) t_1_156 rfl (by decide +kernel) rfl ?_
  refine s_iload_n C 0 1 dX6_init_86 rfl rfl ?_
  refine s_new (d := (10, 1, 1)) (ty := tyX0) C dX6_init_87 rfl rfl rfl f_X0 tyX0_ok (by decide +kernel) t_1_108 t_1_113 t_1_7 rfl (by decide) ⟨Nat.le_of_ble_eq_true rfl, Nat.le_of_ble_eq_true rfl⟩ ?_
  refine s_dup C dX6_init_90 ?_
  refine s_callIN (as := []) (st := [vR (10, 1, 1), vI (1 : Int32), vR (9, 1, 0)]) (mc := 0) (ms := 0) (n1 := 61) (k1 := 57) C dX6_init_91 (i_X0_init G z l (i := 60) rfl (by decide) (by decide) _) (by decide) t_1_115 t_1_7 rfl t_1_116 m_X0_init ⟨Nat.le_of_ble_eq_true rfl, Nat.le_of_ble_eq_true rfl⟩ ⟨rfl, rfl⟩ ⟨Nat.le_of_ble_eq_true rfl, Nat.le_of_ble_eq_true rfl⟩ rfl (by decide) rfl (Nat.le_of_ble_eq_true rfl) ?_
  refine s_aast (i := 58) (i2 := 60) (j := 1) C dX6_init_94 rfl (by decide) rfl (by decide) rfl rfl rfl rfl (by decide) (by decide) rfl rfl ?_
  refine s_iinc (v := (2 : Int32)) (ls2 := [(1, vI (2 : Int32)), (0, vR (7, 1, 0))]) C 0 dX6_init_95 rfl (by decide) (by decide) rfl ?_
  refine s_goto C 76 dX6_init_98 (by decide) ?_
  refine s_iload_n C 0 1 dX6_init_76 rfl rfl ?_
  refine s_bipush (v := (12 : Int32)) C dX6_init_77 rfl ?_
  refine s_geF C 101 dX6_init_79 (by decide) (by decide) ?_
  refine s_aload_n C 1 0 dX6_init_82 rfl rfl ?_
  refine s_getR (i := 56) (kf := 1) (d2 := (9, 1, 0)) C dX6_init_83 rfl (by decide) rfl rfl f_X6 (by decide) t_1_156 rfl (by decide +kernel) rfl ?_
  refine s_iload_n C 0 1 dX6_init_86 rfl rfl ?_
  refine s_new (d := (10, 1, 2)) (ty := tyX0) C dX6_init_87 rfl rfl rfl f_X0 tyX0_ok (by decide +kernel) t_1_108 t_1_113 t_1_7 rfl (by decide) ⟨Nat.le_of_ble_eq_true rfl, Nat.le_of_ble_eq_true rfl⟩ ?_
  refine s_dup C dX6_init_90 ?_
  refine s_callIN (as := []) (st := [vR (10, 1, 2), vI (2 : Int32), vR (9, 1, 0)]) (mc := 0) (ms := 0) (n1 := 62) (k1 := 58) C dX6_init_91 (i_X0_init G z l (i := 61) rfl (by decide) (by decide) _) (by decide) t_1_115 t_1_7 rfl t_1_116 m_X0_init ⟨Nat.le_of_ble_eq_true rfl, Nat.le_of_ble_eq_true rfl⟩ ⟨rfl, rfl⟩ ⟨Nat.le_of_ble_eq_true rfl, Nat.le_of_ble_eq_true rfl⟩ rfl (by decide) rfl (Nat.le_of_ble_eq_true rfl) ?_
  refine s_aast (i := 58) (i2 := 61) (j := 2) C dX6_init_94 rfl (by decide) rfl (by decide) rfl rfl rfl rfl (by decide) (by decide) rfl rfl ?_
  refine s_iinc (v := (3 : Int32)) (ls2 := [(1, vI (3 : Int32)), (0, vR (7, 1, 0))]) C 0 dX6_init_95 rfl (by decide) (by decide) rfl ?_
  refine s_goto C 76 dX6_init_98 (by decide) ?_
  refine s_iload_n C 0 1 dX6_init_76 rfl rfl ?_
  refine s_bipush (v := (12 : Int32)) C dX6_init_77 rfl ?_
  refine s_geF C 101 dX6_init_79 (by decide) (by decide) ?_
  refine s_aload_n C 1 0 dX6_init_82 rfl rfl ?_
  refine s_getR (i := 56) (kf := 1) (d2 := (9, 1, 0)) C dX6_init_83 rfl (by decide) rfl rfl f_X6 (by decide) t_1_156 rfl (by decide +kernel) rfl ?_
  refine s_iload_n C 0 1 dX6_init_86 rfl rfl ?_
  refine s_new (d := (10, 1, 3)) (ty := tyX0) C dX6_init_87 rfl rfl rfl f_X0 tyX0_ok (by decide +kernel) t_1_108 t_1_113 t_1_7 rfl (by decide) ⟨Nat.le_of_ble_eq_true rfl, Nat.le_of_ble_eq_true rfl⟩ ?_
  refine s_dup C dX6_init_90 ?_
  refine s_callIN (as := []) (st := [vR (10, 1, 3), vI (3 : Int32), vR (9, 1, 0)]) (mc := 0) (ms := 0) (n1 := 63) (k1 := 59) C dX6_init_91 (i_X0_init G z l (i := 62) rfl (by decide) (by decide) _) (by decide) t_1_115 t_1_7 rfl t_1_116 m_X0_init ⟨Nat.le_of_ble_eq_true rfl, Nat.le_of_ble_eq_true rfl⟩ ⟨rfl, rfl⟩ ⟨Nat.le_of_ble_eq_true rfl, Nat.le_of_ble_eq_true rfl⟩ rfl (by decide) rfl (Nat.le_of_ble_eq_true rfl) ?_
  refine s_aast (i := 58) (i2 := 62) (j := 3) C dX6_init_94 rfl (by decide) rfl (by decide) rfl rfl rfl rfl (by decide) (by decide) rfl rfl ?_
  refine s_iinc (v := (4 : Int32)) (ls2 := [(1, vI (4 : Int32)), (0, vR (7, 1, 0))]) C 0 dX6_init_95 rfl (by decide) (by decide) rfl ?_
  refine s_goto C 76 dX6_init_98 (by decide) ?_
  refine s_iload_n C 0 1 dX6_init_76 rfl rfl ?_
  refine s_bipush (v := (12 : Int32)) C dX6_init_77 rfl ?_
  refine s_geF C 101 dX6_init_79 (by decide) (by decide) ?_
  refine s_aload_n C 1 0 dX6_init_82 rfl rfl ?_
  refine s_getR (i := 56) (kf := 1) (d2 := (9, 1, 0)) C dX6_init_83 rfl (by decide) rfl rfl f_X6 (by decide) t_1_156 rfl (by decide +kernel) rfl ?_
  refine s_iload_n C 0 1 dX6_init_86 rfl rfl ?_
  refine s_new (d := (10, 1, 4)) (ty := tyX0) C dX6_init_87 rfl rfl rfl f_X0 tyX0_ok (by decide +kernel) t_1_108 t_1_113 t_1_7 rfl (by decide) ⟨Nat.le_of_ble_eq_true rfl, Nat.le_of_ble_eq_true rfl⟩ ?_
  refine s_dup C dX6_init_90 ?_
  refine s_callIN (as := []) (st := [vR (10, 1, 4), vI (4 : Int32), vR (9, 1, 0)]) (mc := 0) (ms := 0) (n1 := 64) (k1 := 60) C dX6_init_91 (i_X0_init G z l (i := 63) rfl (by decide) (by decide) _) (by decide) t_1_115 t_1_7 rfl t_1_116 m_X0_init ⟨Nat.le_of_ble_eq_true rfl, Nat.le_of_ble_eq_true rfl⟩ ⟨rfl, rfl⟩ ⟨Nat.le_of_ble_eq_true rfl, Nat.le_of_ble_eq_true rfl⟩ rfl (by decide) rfl (Nat.le_of_ble_eq_true rfl) ?_
  refine s_aast (i := 58) (i2 := 63) (j := 4) C dX6_init_94 rfl (by decide) rfl (by decide) rfl rfl rfl rfl (by decide) (by decide) rfl rfl ?_
  refine s_iinc (v := (5 : Int32)) (ls2 := [(1, vI (5 : Int32)), (0, vR (7, 1, 0))]) C 0 dX6_init_95 rfl (by decide) (by decide) rfl ?_
  refine s_goto C 76 dX6_init_98 (by decide) ?_
  refine s_iload_n C 0 1 dX6_init_76 rfl rfl ?_
  refine s_bipush (v := (12 : Int32)) C dX6_init_77 rfl ?_
  refine s_geF C 101 dX6_init_79 (by decide) (by decide) ?_
  refine s_aload_n C 1 0 dX6_init_82 rfl rfl ?_
  refine s_getR (i := 56) (kf := 1) (d2 := (9, 1, 0)) C dX6_init_83 rfl (by decide) rfl rfl f_X6 (by decide) t_1_156 rfl (by decide +kernel) rfl ?_
  refine s_iload_n C 0 1 dX6_init_86 rfl rfl ?_
  refine s_new (d := (10, 1, 5)) (ty := tyX0) C dX6_init_87 rfl rfl rfl f_X0 tyX0_ok (by decide +kernel) t_1_108 t_1_113 t_1_7 rfl (by decide) ⟨Nat.le_of_ble_eq_true rfl, Nat.le_of_ble_eq_true rfl⟩ ?_
  refine s_dup C dX6_init_90 ?_
  refine s_callIN (as := []) (st := [vR (10, 1, 5), vI (5 : Int32), vR (9, 1, 0)]) (mc := 0) (ms := 0) (n1 := 65) (k1 := 61) C dX6_init_91 (i_X0_init G z l (i := 64) rfl (by decide) (by decide) _) (by decide) t_1_115 t_1_7 rfl t_1_116 m_X0_init ⟨Nat.le_of_ble_eq_true rfl, Nat.le_of_ble_eq_true rfl⟩ ⟨rfl, rfl⟩ ⟨Nat.le_of_ble_eq_true rfl, Nat.le_of_ble_eq_true rfl⟩ rfl (by decide) rfl (Nat.le_of_ble_eq_true rfl) ?_
  refine s_aast (i := 58) (i2 := 64) (j := 5) C dX6_init_94 rfl (by decide) rfl (by decide) rfl rfl rfl rfl (by decide) (by decide) rfl rfl ?_
  refine s_iinc (v := (6 : Int32)) (ls2 := [(1, vI (6 : Int32)), (0, vR (7, 1, 0))]) C 0 dX6_init_95 rfl (by decide) (by decide) rfl ?_
  refine s_goto C 76 dX6_init_98 (by decide) ?_
  refine s_iload_n C 0 1 dX6_init_76 rfl rfl ?_
  refine s_bipush (v := (12 : Int32)) C dX6_init_77 rfl ?_
  refine s_geF C 101 dX6_init_79 (by decide) (by decide) ?_
  refine s_aload_n C 1 0 dX6_init_82 rfl rfl ?_
  refine s_getR (i := 56) (kf := 1) (d2 := (9, 1, 0)) C dX6_init_83 rfl (by decide) rfl rfl f_X6 (by decide) t_1_156 rfl (by decide +kernel) rfl ?_
  refine s_iload_n C 0 1 dX6_init_86 rfl rfl ?_
  refine s_new (d := (10, 1, 6)) (ty := tyX0) C dX6_init_87 rfl rfl rfl f_X0 tyX0_ok (by decide +kernel) t_1_108 t_1_113 t_1_7 rfl (by decide) ⟨Nat.le_of_ble_eq_true rfl, Nat.le_of_ble_eq_true rfl⟩ ?_
  refine s_dup C dX6_init_90 ?_
  refine s_callIN (as := []) (st := [vR (10, 1, 6), vI (6 : Int32), vR (9, 1, 0)]) (mc := 0) (ms := 0) (n1 := 66) (k1 := 62) C dX6_init_91 (i_X0_init G z l (i := 65) rfl (by decide) (by decide) _) (by decide) t_1_115 t_1_7 rfl t_1_116 m_X0_init ⟨Nat.le_of_ble_eq_true rfl, Nat.le_of_ble_eq_true rfl⟩ ⟨rfl, rfl⟩ ⟨Nat.le_of_ble_eq_true rfl, Nat.le_of_ble_eq_true rfl⟩ rfl (by decide) rfl (Nat.le_of_ble_eq_true rfl) ?_
  refine s_aast (i := 58) (i2 := 65) (j := 6) C dX6_init_94 rfl (by decide) rfl (by decide) rfl rfl rfl rfl (by decide) (by decide) rfl rfl ?_
  refine s_iinc (v := (7 : Int32)) (ls2 := [(1, vI (7 : Int32)), (0, vR (7, 1, 0))]) C 0 dX6_init_95 rfl (by decide) (by decide) rfl ?_
  refine s_goto C 76 dX6_init_98 (by decide) ?_
  refine s_iload_n C 0 1 dX6_init_76 rfl rfl ?_
  refine s_bipush (v := (12 : Int32)) C dX6_init_77 rfl ?_
  refine s_geF C 101 dX6_init_79 (by decide) (by decide) ?_
  refine s_aload_n C 1 0 dX6_init_82 rfl rfl ?_
  refine s_getR (i := 56) (kf := 1) (d2 := (9, 1, 0)) C dX6_init_83 rfl (by decide) rfl rfl f_X6 (by decide) t_1_156 rfl (by decide +kernel) rfl ?_
  refine s_iload_n C 0 1 dX6_init_86 rfl rfl ?_
  refine s_new (d := (10, 1, 7)) (ty := tyX0) C dX6_init_87 rfl rfl rfl f_X0 tyX0_ok (by decide +kernel) t_1_108 t_1_113 t_1_7 rfl (by decide) ⟨Nat.le_of_ble_eq_true rfl, Nat.le_of_ble_eq_true rfl⟩ ?_
  refine s_dup C dX6_init_90 ?_
  refine s_callIN (as := []) (st := [vR (10, 1, 7), vI (7 : Int32), vR (9, 1, 0)]) (mc := 0) (ms := 0) (n1 := 67) (k1 := 63) C dX6_init_91 (i_X0_init G z l (i := 66) rfl (by decide) (by decide) _) (by decide) t_1_115 t_1_7 rfl t_1_116 m_X0_init ⟨Nat.le_of_ble_eq_true rfl, Nat.le_of_ble_eq_true rfl⟩ ⟨rfl, rfl⟩ ⟨Nat.le_of_ble_eq_true rfl, Nat.le_of_ble_eq_true rfl⟩ rfl (by decide) rfl (Nat.le_of_ble_eq_true rfl) ?_
  refine s_aast (i := 58) (i2 := 66) (j := 7) C dX6_init_94 rfl (by decide) rfl (by decide) rfl rfl rfl rfl (by decide) (by decide) rfl rfl ?_
  refine s_iinc (v := (8 : Int32)) (ls2 := [(1, vI (8 : Int32)), (0, vR (7, 1, 0))]) C 0 dX6_init_95 rfl (by decide) (by decide) rfl ?_
  refine s_goto C 76 dX6_init_98 (by decide) ?_
  refine s_iload_n C 0 1 dX6_init_76 rfl rfl ?_
  refine s_bipush (v := (12 : Int32)) C dX6_init_77 rfl ?_
  refine s_geF C 101 dX6_init_79 (by decide) (by decide) ?_
  refine s_aload_n C 1 0 dX6_init_82 rfl rfl ?_
  refine s_getR (i := 56) (kf := 1) (d2 := (9, 1, 0)) C dX6_init_83 rfl (by decide) rfl rfl f_X6 (by decide) t_1_156 rfl (by decide +kernel) rfl ?_
  refine s_iload_n C 0 1 dX6_init_86 rfl rfl ?_
  refine s_new (d := (10, 1, 8)) (ty := tyX0) C dX6_init_87 rfl rfl rfl f_X0 tyX0_ok (by decide +kernel) t_1_108 t_1_113 t_1_7 rfl (by decide) ⟨Nat.le_of_ble_eq_true rfl, Nat.le_of_ble_eq_true rfl⟩ ?_
  refine s_dup C dX6_init_90 ?_
  refine s_callIN (as := []) (st := [vR (10, 1, 8), vI (8 : Int32), vR (9, 1, 0)]) (mc := 0) (ms := 0) (n1 := 68) (k1 := 64) C dX6_init_91 (i_X0_init G z l (i := 67) rfl (by decide) (by decide) _) (by decide) t_1_115 t_1_7 rfl t_1_116 m_X0_init ⟨Nat.le_of_ble_eq_true rfl, Nat.le_of_ble_eq_true rfl⟩ ⟨rfl, rfl⟩ ⟨Nat.le_of_ble_eq_true rfl, Nat.le_of_ble_eq_true rfl⟩ rfl (by decide) rfl (Nat.le_of_ble_eq_true rfl) ?_
  refine s_aast (i := 58) (i2 := 67) (j := 8) C dX6_init_94 rfl (by decide) rfl (by decide) rfl rfl rfl rfl (by decide) (by decide) rfl rfl ?_
  refine s_iinc (v := (9 : Int32)) (ls2 := [(1, vI (9 : Int32)), (0, vR (7, 1, 0))]) C 0 dX6_init_95 rfl (by decide) (by decide) rfl ?_
  refine s_goto C 76 dX6_init_98 (by decide) ?_
  refine s_iload_n C 0 1 dX6_init_76 rfl rfl ?_
  refine s_bipush (v := (12 : Int32)) C dX6_init_77 rfl ?_
  refine s_geF C 101 dX6_init_79 (by decide) (by decide) ?_
  refine s_aload_n C 1 0 dX6_init_82 rfl rfl ?_
  refine s_getR (i := 56) (kf := 1) (d2 := (9, 1, 0)) C dX6_init_83 rfl (by decide) rfl rfl f_X6 (by decide) t_1_156 rfl (by decide +kernel) rfl ?_
  refine s_iload_n C 0 1 dX6_init_86 rfl rfl ?_
  refine s_new (d := (10, 1, 9)) (ty := tyX0) C dX6_init_87 rfl rfl rfl f_X0 tyX0_ok (by decide +kernel) t_1_108 t_1_113 t_1_7 rfl (by decide) ⟨Nat.le_of_ble_eq_true rfl, Nat.le_of_ble_eq_true rfl⟩ ?_
  refine s_dup C dX6_init_90 ?_
  refine s_callIN (as := []) (st := [vR (10, 1, 9), vI (9 : Int32), vR (9, 1, 0)]) (mc := 0) (ms := 0) (n1 := 69) (k1 := 65) C dX6_init_91 (i_X0_init G z l (i := 68) rfl (by decide) (by decide) _) (by decide) t_1_115 t_1_7 rfl t_1_116 m_X0_init ⟨Nat.le_of_ble_eq_true rfl, Nat.le_of_ble_eq_true rfl⟩ ⟨rfl, rfl⟩ ⟨Nat.le_of_ble_eq_true rfl, Nat.le_of_ble_eq_true rfl⟩ rfl (by decide) rfl (Nat.le_of_ble_eq_true rfl) ?_
  refine s_aast (i := 58) (i2 := 68) (j := 9) C dX6_init_94 rfl (by decide) rfl (by decide) rfl rfl rfl rfl (by decide) (by decide) rfl rfl ?_
  refine s_iinc (v := (10 : Int32)) (ls2 := [(1, vI (10 : Int32)), (0, vR (7, 1, 0))]) C 0 dX6_init_95 rfl (by decide) (by decide) rfl ?_
  refine s_goto C 76 dX6_init_98 (by decide) ?_
  refine s_iload_n C 0 1 dX6_init_76 rfl rfl ?_
  refine s_bipush (v := (12 : Int32)) C dX6_init_77 rfl ?_
  refine s_geF C 101 dX6_init_79 (by decide) (by decide) ?_
  refine s_aload_n C 1 0 dX6_init_82 rfl rfl ?_
  refine s_getR (i := 56) (kf := 1) (d2 := (9, 1, 0)) C dX6_init_83 rfl (by decide) rfl rfl f_X6 (by decide) t_1_156 rfl (by decide +kernel) rfl ?_
  refine s_iload_n C 0 1 dX6_init_86 rfl rfl ?_
  refine s_new (d := (10, 1, 10)) (ty := tyX0) C dX6_init_87 rfl rfl rfl f_X0 tyX0_ok (by decide +kernel) t_1_108 t_1_113 t_1_7 rfl (by decide) ⟨Nat.le_of_ble_eq_true rfl, Nat.le_of_ble_eq_true rfl⟩ ?_
  refine s_dup C dX6_init_90 ?_
  refine s_callIN (as := []) (st := [vR (10, 1, 10), vI (10 : Int32), vR (9, 1, 0)]) (mc := 0) (ms := 0) (n1 := 70) (k1 := 66) C dX6_init_91 (i_X0_init G z l (i := 69) rfl (by decide) (by decide) _) (by decide) t_1_115 t_1_7 rfl t_1_116 m_X0_init ⟨Nat.le_of_ble_eq_true rfl, Nat.le_of_ble_eq_true rfl⟩ ⟨rfl, rfl⟩ ⟨Nat.le_of_ble_eq_true rfl, Nat.le_of_ble_eq_true rfl⟩ rfl (by decide) rfl (Nat.le_of_ble_eq_true rfl) ?_
  refine s_aast (i := 58) (i2 := 69) (j := 10) C dX6_init_94 rfl (by decide) rfl (by decide) rfl rfl rfl rfl (by decide) (by decide) rfl rfl ?_
  refine s_iinc (v := (11 : Int32)) (ls2 := [(1, vI (11 : Int32)), (0, vR (7, 1, 0))]) C 0 dX6_init_95 rfl (by decide) (by decide) rfl ?_
  refine s_goto C 76 dX6_init_98 (by decide) ?_
  refine s_iload_n C 0 1 dX6_init_76 rfl rfl ?_
  refine s_bipush (v := (12 : Int32)) C dX6_init_77 rfl ?_
  refine s_geF C 101 dX6_init_79 (by decide) (by decide) ?_
  refine s_aload_n C 1 0 dX6_init_82 rfl rfl ?_
  refine s_getR (i := 56) (kf := 1) (d2 := (9, 1, 0)) C dX6_init_83 rfl (by decide) rfl rfl f_X6 (by decide) t_1_156 rfl (by decide +kernel) rfl ?_
  refine s_iload_n C 0 1 dX6_init_86 rfl rfl ?_
  refine s_new (d := (10, 1, 11)) (ty := tyX0) C dX6_init_87 rfl rfl rfl f_X0 tyX0_ok (by decide +kernel) t_1_108 t_1_113 t_1_7 rfl (by decide) ⟨Nat.le_of_ble_eq_true rfl, Nat.le_of_ble_eq_true rfl⟩ ?_
  refine s_dup C dX6_init_90 ?_
  refine s_callIN (as := []) (st := [vR (10, 1, 11), vI (11 : Int32), vR (9, 1, 0)]) (mc := 0) (ms := 0) (n1 := 71) (k1 := 67) C dX6_init_91 (i_X0_init G z l (i := 70) rfl (by decide) (by decide) _) (by decide) t_1_115 t_1_7 rfl t_1_116 m_X0_init ⟨Nat.le_of_ble_eq_true rfl, Nat.le_of_ble_eq_true rfl⟩ ⟨rfl, rfl⟩ ⟨Nat.le_of_ble_eq_true rfl, Nat.le_of_ble_eq_true rfl⟩ rfl (by decide) rfl (Nat.le_of_ble_eq_true rfl) ?_
  refine s_aast (i := 58) (i2 := 70) (j := 11) C dX6_init_94 rfl (by decide) rfl (by decide) rfl rfl rfl rfl (by decide) (by decide) rfl rfl ?_
  refine s_iinc (v := (12 : Int32)) (ls2 := [(1, vI (12 : Int32)), (0, vR (7, 1, 0))]) C 0 dX6_init_95 rfl (by decide) (by decide) rfl ?_
  refine s_goto C 76 dX6_init_98 (by decide) ?_
  refine s_iload_n C 0 1 dX6_init_76 rfl rfl ?_
  refine s_bipush (v := (12 : Int32)) C dX6_init_77 rfl ?_
  refine s_geT C 101 dX6_init_79 (by decide) (by decide) ?_
  exact s_return C dX6_init_101 rfl rfl (by decide)
def k_X1_56 (σ : St) : St := (uI (k_X6_57 (uR σ (7, 1, 0) (fun _ => 0))) (12, 0, 0) 1 (0 : Int32))
set_option maxHeartbeats 4000000 in
set_option maxRecDepth 20000 in
theorem i_X1_56 (G : Gx) (z : Nat) (l : Launch) (σ : St) : SpS G z l yX1_init cX1_init 1 none (rmC 3 15 191) 56 54 [vR (12, 0, 0)] σ (va_Qv (fun b => b = k_X1_56 σ) (fun u => WdS G z 71 69 u) (AZ z)) 15 191 := by
  refine SpS_of (own := RX1) (by decide) rfl (Nat.le_of_ble_eq_true rfl) ?_
  intro p e s m args below meth c C hI
  show Rs G z p l e (rmC 3 15 191) s m args below meth c (MQ below _ args s 15 191 (AZ z)) 1 0 0 56 54 0 [(0, vR (12, 0, 0))] [] σ
  refine s_aload_n C 0 0 dX1_init_0 rfl rfl ?_
  refine s_objInit C dX1_init_1 t_2_67 t_1_27 t_1_28 ⟨Nat.le_of_ble_eq_true rfl, Nat.le_of_ble_eq_true rfl⟩ ?_
  refine s_aload_n C 0 0 dX1_init_4 rfl rfl ?_
  refine s_new (d := (7, 1, 0)) (ty := tyX6) C dX1_init_5 rfl rfl rfl f_X6 tyX6_ok (by decide +kernel) t_2_68 t_1_103 t_1_5 rfl (by decide) ⟨Nat.le_of_ble_eq_true rfl, Nat.le_of_ble_eq_true rfl⟩ ?_
  refine s_dup C dX1_init_8 ?_
  refine s_callI (as := []) (st := [vR (7, 1, 0), vR (12, 0, 0)]) (mc := 14) (ms := 180) (n1 := 71) (k1 := 68) C dX1_init_9 (i_X6_57 G z l _) t_2_69 t_1_105 t_1_5 rfl t_1_106 m_X6_init ⟨Nat.le_of_ble_eq_true rfl, Nat.le_of_ble_eq_true rfl⟩ ⟨rfl, rfl⟩ ⟨Nat.le_of_ble_eq_true rfl, Nat.le_of_ble_eq_true rfl⟩ rfl (by decide) rfl (Nat.le_of_ble_eq_true rfl) ?_
  refine s_putR (i := 55) (kf := 0) (ty0 := tyX1) C hI dX1_init_12 rfl (by decide) rfl rfl f_X1 tyX1_ok nmX1 (by decide) t_2_70 rfl rfl rfl rfl rfl (fun _ => rfl) (fun _ => rfl) ?_
  refine s_aload_n C 0 0 dX1_init_15 rfl rfl ?_
  refine s_iconst (v := (0 : Int32)) C dX1_init_16 rfl ?_
  refine s_putI (i := 55) (kf := 1) (ty0 := tyX1) C dX1_init_17 rfl (by decide) rfl rfl f_X1 tyX1_ok nmX1 (by decide) t_2_72 rfl rfl (nar_z (Or.inl rfl)) (fit_z (Or.inl rfl)) ?_
  exact s_return C dX1_init_20 rfl rfl (by decide)
def k_X6_73 (σ : St) : St := (k_drop (10, 2, 11) (uR (k_drop (10, 2, 10) (uR (k_drop (10, 2, 9) (uR (k_drop (10, 2, 8) (uR (k_drop (10, 2, 7) (uR (k_drop (10, 2, 6) (uR (k_drop (10, 2, 5) (uR (k_drop (10, 2, 4) (uR (k_drop (10, 2, 3) (uR (k_drop (10, 2, 2) (uR (k_drop (10, 2, 1) (uR (k_drop (10, 2, 0) (uR (k_fill (8, 2, 0) (4 : Int32) (uI (uI (uI (uI (uI (uI (uI (uI (uI (uR σ (8, 2, 0) (fun _ => 0)) (7, 2, 0) 2 (0 : Int32)) (7, 2, 0) 3 (0 : Int32)) (7, 2, 0) 4 (0 : Int32)) (7, 2, 0) 5 (0 : Int32)) (7, 2, 0) 6 (0 : Int32)) (7, 2, 0) 7 (0 : Int32)) (7, 2, 0) 8 (0 : Int32)) (7, 2, 0) 9 (0 : Int32)) (7, 2, 0) 10 (0 : Int32)) 96) (10, 2, 0) (fun _ => 0))) (10, 2, 1) (fun _ => 0))) (10, 2, 2) (fun _ => 0))) (10, 2, 3) (fun _ => 0))) (10, 2, 4) (fun _ => 0))) (10, 2, 5) (fun _ => 0))) (10, 2, 6) (fun _ => 0))) (10, 2, 7) (fun _ => 0))) (10, 2, 8) (fun _ => 0))) (10, 2, 9) (fun _ => 0))) (10, 2, 10) (fun _ => 0))) (10, 2, 11) (fun _ => 0)))
set_option maxHeartbeats 4000000 in
set_option maxRecDepth 20000 in
theorem i_X6_73 (G : Gx) (z : Nat) (l : Launch) (σ : St) : SpS G z l yX6_init cX6_init 2 none (rmC 2 14 180) 73 70 [vR (7, 2, 0)] σ (va_Qv (fun b => b = k_X6_73 σ) (fun u => WdS G z 87 84 u) (AZ z)) 14 180 := by
  refine SpS_of (own := RX6) (by decide) rfl (Nat.le_of_ble_eq_true rfl) ?_
  intro p e s m args below meth c C hI
  show Rs G z p l e (rmC 2 14 180) s m args below meth c (MQ below _ args s 14 180 (AZ z)) 2 0 0 73 70 0 [(0, vR (7, 2, 0))] [] σ
  refine s_aload_n C 0 0 dX6_init_0 rfl rfl ?_
  refine s_objInit C dX6_init_1 t_1_107 t_1_27 t_1_28 ⟨Nat.le_of_ble_eq_true rfl, Nat.le_of_ble_eq_true rfl⟩ ?_
  refine s_aload_n C 0 0 dX6_init_4 rfl rfl ?_
  refine s_bipush (v := (96 : Int32)) C dX6_init_5 rfl ?_
  refine s_newa (d := (8, 2, 0)) (ty := .int) C dX6_init_7 rfl rfl (by decide) rfl rfl rfl (fun _ h => h) t_1_55 ⟨by decide, by decide, by decide⟩ rfl (by decide) ⟨Nat.le_of_ble_eq_true rfl, Nat.le_of_ble_eq_true rfl⟩ ?_
  refine s_putR (i := 72) (kf := 0) (ty0 := tyX6) C hI dX6_init_9 rfl (by decide) rfl rfl f_X6 tyX6_ok nmX6 (by decide) t_1_153 rfl rfl rfl rfl rfl (fun _ => rfl) (fun _ => rfl) ?_
  refine s_aload_n C 0 0 dX6_init_12 rfl rfl ?_
  refine s_bipush (v := (12 : Int32)) C dX6_init_13 rfl ?_
  refine s_newq (d := (9, 2, 0)) C dX6_init_15 rfl rfl rfl (by decide) (by decide +kernel) t_1_108 ⟨by decide, by decide, by decide⟩ rfl (by decide) ⟨Nat.le_of_ble_eq_true rfl, Nat.le_of_ble_eq_true rfl⟩ ?_
  refine s_putR (i := 72) (kf := 1) (ty0 := tyX6) C hI dX6_init_18 rfl (by decide) rfl rfl f_X6 tyX6_ok nmX6 (by decide) t_1_156 rfl rfl rfl rfl rfl (fun _ => rfl) (fun _ => rfl) ?_
  refine s_aload_n C 0 0 dX6_init_21 rfl rfl ?_
  refine s_iconst (v := (0 : Int32)) C dX6_init_22 rfl ?_
  refine s_putI (i := 72) (kf := 2) (ty0 := tyX6) C dX6_init_23 rfl (by decide) rfl rfl f_X6 tyX6_ok nmX6 (by decide) t_1_159 rfl rfl rfl rfl ?_
  refine s_aload_n C 0 0 dX6_init_26 rfl rfl ?_
  refine s_iconst (v := (0 : Int32)) C dX6_init_27 rfl ?_
  refine s_putI (i := 72) (kf := 3) (ty0 := tyX6) C dX6_init_28 rfl (by decide) rfl rfl f_X6 tyX6_ok nmX6 (by decide) t_1_161 rfl rfl rfl rfl ?_
  refine s_aload_n C 0 0 dX6_init_31 rfl rfl ?_
  refine s_iconst (v := (0 : Int32)) C dX6_init_32 rfl ?_
  refine s_putI (i := 72) (kf := 4) (ty0 := tyX6) C dX6_init_33 rfl (by decide) rfl rfl f_X6 tyX6_ok nmX6 (by decide) t_1_163 rfl rfl rfl rfl ?_
  refine s_aload_n C 0 0 dX6_init_36 rfl rfl ?_
  refine s_iconst (v := (0 : Int32)) C dX6_init_37 rfl ?_
  refine s_putI (i := 72) (kf := 5) (ty0 := tyX6) C dX6_init_38 rfl (by decide) rfl rfl f_X6 tyX6_ok nmX6 (by decide) t_1_165 rfl rfl rfl rfl ?_
  refine s_aload_n C 0 0 dX6_init_41 rfl rfl ?_
  refine s_iconst (v := (0 : Int32)) C dX6_init_42 rfl ?_
  refine s_putI (i := 72) (kf := 6) (ty0 := tyX6) C dX6_init_43 rfl (by decide) rfl rfl f_X6 tyX6_ok nmX6 (by decide) t_1_167 rfl rfl (nar_z (Or.inl rfl)) (fit_z (Or.inl rfl)) ?_
  refine s_aload_n C 0 0 dX6_init_46 rfl rfl ?_
  refine s_iconst (v := (0 : Int32)) C dX6_init_47 rfl ?_
  refine s_putI (i := 72) (kf := 7) (ty0 := tyX6) C dX6_init_48 rfl (by decide) rfl rfl f_X6 tyX6_ok nmX6 (by decide) t_1_169 rfl rfl rfl rfl ?_
  refine s_aload_n C 0 0 dX6_init_51 rfl rfl ?_
  refine s_iconst (v := (0 : Int32)) C dX6_init_52 rfl ?_
  refine s_putI (i := 72) (kf := 8) (ty0 := tyX6) C dX6_init_53 rfl (by decide) rfl rfl f_X6 tyX6_ok nmX6 (by decide) t_1_171 rfl rfl rfl rfl ?_
  refine s_aload_n C 0 0 dX6_init_56 rfl rfl ?_
  refine s_iconst (v := (0 : Int32)) C dX6_init_57 rfl ?_
  refine s_putI (i := 72) (kf := 9) (ty0 := tyX6) C dX6_init_58 rfl (by decide) rfl rfl f_X6 tyX6_ok nmX6 (by decide) t_1_173 rfl rfl rfl rfl ?_
  refine s_aload_n C 0 0 dX6_init_61 rfl rfl ?_
  refine s_iconst (v := (0 : Int32)) C dX6_init_62 rfl ?_
  refine s_putI (i := 72) (kf := 10) (ty0 := tyX6) C dX6_init_63 rfl (by decide) rfl rfl f_X6 tyX6_ok nmX6 (by decide) t_1_175 rfl rfl rfl rfl ?_
  refine s_aload_n C 0 0 dX6_init_66 rfl rfl ?_
  refine s_getR (i := 72) (kf := 0) (d2 := (8, 2, 0)) C dX6_init_67 rfl (by decide) rfl rfl f_X6 (by decide) t_1_153 rfl (by decide +kernel) rfl ?_
  refine s_iconst (v := (4 : Int32)) C dX6_init_70 rfl ?_
  refine s_callS (as := [vR (8, 2, 0), vI (4 : Int32)]) (st := []) C dX6_init_71 (i_fill G z l (i := 73) rfl (by decide) (by decide) (4 : Int32) _) t_1_110 t_1_111 t_1_6 t_1_112 m_J7_fill_53178 ⟨Nat.le_of_ble_eq_true rfl, Nat.le_of_ble_eq_true rfl⟩ ⟨rfl, rfl⟩ ⟨Nat.le_of_ble_eq_true rfl, Nat.le_of_ble_eq_true rfl⟩ rfl (by decide) rfl (Nat.le_of_ble_eq_true rfl) ?_
  refine s_iconst (v := (0 : Int32)) C dX6_init_74 rfl ?_
  refine s_istore_n (ls2 := [(1, vI (0 : Int32)), (0, vR (7, 2, 0))]) C dX6_init_75 1 rfl (by decide) rfl ?_
  refine s_iload_n C 0 1 dX6_init_76 rfl rfl ?_
  refine s_bipush (v := (12 : Int32)) C dX6_init_77 rfl ?_
  refine s_geF C 101 dX6_init_79 (by decide) (by decide) ?_
  refine s_aload_n C 1 0 dX6_init_82 rfl rfl ?_
  refine s_getR (i := 72) (kf := 1) (d2 := (9, 2, 0)) C dX6_init_83 rfl (by decide) rfl rfl f_X6 (by decide) t_1_156 rfl (by decide +kernel) rfl ?_
  refine s_iload_n C 0 1 dX6_init_86 rfl rfl ?_
  refine s_new (d := (10, 2, 0)) (ty := tyX0) C dX6_init_87 rfl rfl rfl f_X0 tyX0_ok (by decide +kernel) t_1_108 t_1_113 t_1_7 rfl (by decide) ⟨Nat.le_of_ble_eq_true rfl, Nat.le_of_ble_eq_true rfl⟩ ?_
  refine s_dup C dX6_init_90 ?_
  refine s_callIN (as := []) (st := [vR (10, 2, 0), vI (0 : Int32), vR (9, 2, 0)]) (mc := 0) (ms := 0) (n1 := 76) (k1 := 72) C dX6_init_91 (i_X0_init G z l (i := 75) rfl (by decide) (by decide) _) (by decide) t_1_115 t_1_7 rfl t_1_116 m_X0_init ⟨Nat.le_of_ble_eq_true rfl, Nat.le_of_ble_eq_true rfl⟩ ⟨rfl, rfl⟩ ⟨Nat.le_of_ble_eq_true rfl, Nat.le_of_ble_eq_true rfl⟩ rfl (by decide) rfl (Nat.le_of_ble_eq_true rfl) ?_
  refine s_aast (i := 74) (i2 := 75) (j := 0) C dX6_init_94 rfl (by decide) rfl (by decide) rfl rfl rfl rfl (by decide) (by decide) rfl rfl ?_
  refine s_iinc (v := (1 : Int32)) (ls2 := [(1, vI (1 : Int32)), (0, vR (7, 2, 0))]) C 0 dX6_init_95 rfl (by decide) (by decide) rfl ?_
  refine s_goto C 76 dX6_init_98 (by decide) ?_
  refine s_iload_n C 0 1 dX6_init_76 rfl rfl ?_
  refine s_bipush (v := (12 : Int32)) C dX6_init_77 rfl ?_
  refine s_geF C 101 dX6_init_79 (by decide) (by decide) ?_
  refine s_aload_n C 1 0 dX6_init_82 rfl rfl ?_
  refine s_getR (i := 72) (kf := 1) (d2 := (9, 2, 0)) C dX6_init_83 rfl (by decide) rfl rfl f_X6 (by decide) t_1_156 rfl (by decide +kernel) rfl ?_
  refine s_iload_n C 0 1 dX6_init_86 rfl rfl ?_
  refine s_new (d := (10, 2, 1)) (ty := tyX0) C dX6_init_87 rfl rfl rfl f_X0 tyX0_ok (by decide +kernel) t_1_108 t_1_113 t_1_7 rfl (by decide) ⟨Nat.le_of_ble_eq_true rfl, Nat.le_of_ble_eq_true rfl⟩ ?_
  refine s_dup C dX6_init_90 ?_
  refine s_callIN (as := []) (st := [vR (10, 2, 1), vI (1 : Int32), vR (9, 2, 0)]) (mc := 0) (ms := 0) (n1 := 77) (k1 := 73) C dX6_init_91 (i_X0_init G z l (i := 76) rfl (by decide) (by decide) _) (by decide) t_1_115 t_1_7 rfl t_1_116 m_X0_init ⟨Nat.le_of_ble_eq_true rfl, Nat.le_of_ble_eq_true rfl⟩ ⟨rfl, rfl⟩ ⟨Nat.le_of_ble_eq_true rfl, Nat.le_of_ble_eq_true rfl⟩ rfl (by decide) rfl (Nat.le_of_ble_eq_true rfl) ?_
  refine s_aast (i := 74) (i2 := 76) (j := 1) C dX6_init_94 rfl (by decide) rfl (by decide) rfl rfl rfl rfl (by decide) (by decide) rfl rfl ?_
  refine s_iinc (v := (2 : Int32)) (ls2 := [(1, vI (2 : Int32)), (0, vR (7, 2, 0))]) C 0 dX6_init_95 rfl (by decide) (by decide) rfl ?_
  refine s_goto C 76 dX6_init_98 (by decide) ?_
  refine s_iload_n C 0 1 dX6_init_76 rfl rfl ?_
  refine s_bipush (v := (12 : Int32)) C dX6_init_77 rfl ?_
  refine s_geF C 101 dX6_init_79 (by decide) (by decide) ?_
  refine s_aload_n C 1 0 dX6_init_82 rfl rfl ?_
  refine s_getR (i := 72) (kf := 1) (d2 := (9, 2, 0)) C dX6_init_83 rfl (by decide) rfl rfl f_X6 (by decide) t_1_156 rfl (by decide +kernel) rfl ?_
  refine s_iload_n C 0 1 dX6_init_86 rfl rfl ?_
  refine s_new (d := (10, 2, 2)) (ty := tyX0) C dX6_init_87 rfl rfl rfl f_X0 tyX0_ok (by decide +kernel) t_1_108 t_1_113 t_1_7 rfl (by decide) ⟨Nat.le_of_ble_eq_true rfl, Nat.le_of_ble_eq_true rfl⟩ ?_
  refine s_dup C dX6_init_90 ?_
  refine s_callIN (as := []) (st := [vR (10, 2, 2), vI (2 : Int32), vR (9, 2, 0)]) (mc := 0) (ms := 0) (n1 := 78) (k1 := 74) C dX6_init_91 (i_X0_init G z l (i := 77) rfl (by decide) (by decide) _) (by decide) t_1_115 t_1_7 rfl t_1_116 m_X0_init ⟨Nat.le_of_ble_eq_true rfl, Nat.le_of_ble_eq_true rfl⟩ ⟨rfl, rfl⟩ ⟨Nat.le_of_ble_eq_true rfl, Nat.le_of_ble_eq_true rfl⟩ rfl (by decide) rfl (Nat.le_of_ble_eq_true rfl) ?_
  refine s_aast (i := 74) (i2 := 77) (j := 2) C dX6_init_94 rfl (by decide) rfl (by decide) rfl rfl rfl rfl (by decide) (by decide) rfl rfl ?_
  refine s_iinc (v := (3 : Int32)) (ls2 := [(1, vI (3 : Int32)), (0, vR (7, 2, 0))]) C 0 dX6_init_95 rfl (by decide) (by decide) rfl ?_
  refine s_goto C 76 dX6_init_98 (by decide) ?_
  refine s_iload_n C 0 1 dX6_init_76 rfl rfl ?_
  refine s_bipush (v := (12 : Int32)) C dX6_init_77 rfl ?_
  refine s_geF C 101 dX6_init_79 (by decide) (by decide) ?_
  refine s_aload_n C 1 0 dX6_init_82 rfl rfl ?_
  refine s_getR (i := 72) (kf := 1) (d2 := (9, 2, 0)) C dX6_init_83 rfl (by decide) rfl rfl f_X6 (by decide) t_1_156 rfl (by decide +kernel) rfl ?_
  refine s_iload_n C 0 1 dX6_init_86 rfl rfl ?_
  refine s_new (d := (10, 2, 3)) (ty := tyX0) C dX6_init_87 rfl rfl rfl f_X0 tyX0_ok (by decide +kernel) t_1_108 t_1_113 t_1_7 rfl (by decide) ⟨Nat.le_of_ble_eq_true rfl, Nat.le_of_ble_eq_true rfl⟩ ?_
  refine s_dup C dX6_init_90 ?_
  refine s_callIN (as := []) (st := [vR (10, 2, 3), vI (3 : Int32), vR (9, 2, 0)]) (mc := 0) (ms := 0) (n1 := 79) (k1 := 75) C dX6_init_91 (i_X0_init G z l (i := 78) rfl (by decide) (by decide) _) (by decide) t_1_115 t_1_7 rfl t_1_116 m_X0_init ⟨Nat.le_of_ble_eq_true rfl, Nat.le_of_ble_eq_true rfl⟩ ⟨rfl, rfl⟩ ⟨Nat.le_of_ble_eq_true rfl, Nat.le_of_ble_eq_true rfl⟩ rfl (by decide) rfl (Nat.le_of_ble_eq_true rfl) ?_
  refine s_aast (i := 74) (i2 := 78) (j := 3) C dX6_init_94 rfl (by decide) rfl (by decide) rfl rfl rfl rfl (by decide) (by decide) rfl rfl ?_
  refine s_iinc (v := (4 : Int32)) (ls2 := [(1, vI (4 : Int32)), (0, vR (7, 2, 0))]) C 0 dX6_init_95 rfl (by decide) (by decide) rfl ?_
  refine s_goto C 76 dX6_init_98 (by decide) ?_
  refine s_iload_n C 0 1 dX6_init_76 rfl rfl ?_
  refine s_bipush (v := (12 : Int32)) C dX6_init_77 rfl ?_
  refine s_geF C 101 dX6_init_79 (by decide) (by decide) ?_
  refine s_aload_n C 1 0 dX6_init_82 rfl rfl ?_
  refine s_getR (i := 72) (kf := 1) (d2 := (9, 2, 0)) C dX6_init_83 rfl (by decide) rfl rfl f_X6 (by decide) t_1_156 rfl (by decide +kernel) rfl ?_
  refine s_iload_n C 0 1 dX6_init_86 rfl rfl ?_
  refine s_new (d := (10, 2, 4)) (ty := tyX0) C dX6_init_87 rfl rfl rfl f_X0 tyX0_ok (by decide +kernel) t_1_108 t_1_113 t_1_7 rfl (by decide) ⟨Nat.le_of_ble_eq_true rfl, Nat.le_of_ble_eq_true rfl⟩ ?_
  refine s_dup C dX6_init_90 ?_
  refine s_callIN (as := []) (st := [vR (10, 2, 4), vI (4 : Int32), vR (9, 2, 0)]) (mc := 0) (ms := 0) (n1 := 80) (k1 := 76) C dX6_init_91 (i_X0_init G z l (i := 79) rfl (by decide) (by decide) _) (by decide) t_1_115 t_1_7 rfl t_1_116 m_X0_init ⟨Nat.le_of_ble_eq_true rfl, Nat.le_of_ble_eq_true rfl⟩ ⟨rfl, rfl⟩ ⟨Nat.le_of_ble_eq_true rfl, Nat.le_of_ble_eq_true rfl⟩ rfl (by decide) rfl (Nat.le_of_ble_eq_true rfl) ?_
  refine s_aast (i := 74) (i2 := 79) (j := 4) C dX6_init_94 rfl (by decide) rfl (by decide) rfl rfl rfl rfl (by decide) (by decide) rfl rfl ?_
  refine s_iinc (v := (5 : Int32)) (ls2 := [(1, vI (5 : Int32)), (0, vR (7, 2, 0))]) C 0 dX6_init_95 rfl (by decide) (by decide) rfl ?_
  refine s_goto C 76 dX6_init_98 (by decide) ?_
  refine s_iload_n C 0 1 dX6_init_76 rfl rfl ?_
  refine s_bipush (v := (12 : Int32)) C dX6_init_77 rfl ?_
  refine s_geF C 101 dX6_init_79 (by decide) (by decide) ?_
  refine s_aload_n C 1 0 dX6_init_82 rfl rfl ?_
  refine s_getR (i := 72) (kf := 1) (d2 := (9, 2, 0)) C dX6_init_83 rfl (by decide) rfl rfl f_X6 (by decide) t_1_156 rfl (by decide +kernel) rfl ?_
  refine s_iload_n C 0 1 dX6_init_86 rfl rfl ?_
  refine s_new (d := (10, 2, 5)) (ty := tyX0) C dX6_init_87 rfl rfl rfl f_X0 tyX0_ok (by decide +kernel) t_1_108 t_1_113 t_1_7 rfl (by decide) ⟨Nat.le_of_ble_eq_true rfl, Nat.le_of_ble_eq_true rfl⟩ ?_
  refine s_dup C dX6_init_90 ?_
  refine s_callIN (as := []) (st := [vR (10, 2, 5), vI (5 : Int32), vR (9, 2, 0)]) (mc := 0) (ms := 0) (n1 := 81) (k1 := 77) C dX6_init_91 (i_X0_init G z l (i := 80) rfl (by decide) (by decide) _) (by decide) t_1_115 t_1_7 rfl t_1_116 m_X0_init ⟨Nat.le_of_ble_eq_true rfl, Nat.le_of_ble_eq_true rfl⟩ ⟨rfl, rfl⟩ ⟨Nat.le_of_ble_eq_true rfl, Nat.le_of_ble_eq_true rfl⟩ rfl (by decide) rfl (Nat.le_of_ble_eq_true rfl) ?_
  refine s_aast (i := 74) (i2 := 80) (j := 5) C dX6_init_94 rfl (by decide) rfl (by decide) rfl rfl rfl rfl (by decide) (by decide) rfl rfl ?_
  refine s_iinc (v := (6 : Int32)) (ls2 := [(1, vI (6 : Int32)), (0, vR (7, 2, 0))]) C 0 dX6_init_95 rfl (by decide) (by decide) rfl ?_
  refine s_goto C 76 dX6_init_98 (by decide) ?_
  refine s_iload_n C 0 1 dX6_init_76 rfl rfl ?_
  refine s_bipush (v := (12 : Int32)) C dX6_init_77 rfl ?_
  refine s_geF C 101 dX6_init_79 (by decide) (by decide) ?_
  refine s_aload_n C 1 0 dX6_init_82 rfl rfl ?_
  refine s_getR (i := 72) (kf := 1) (d2 := (9, 2, 0)) C dX6_init_83 rfl (by decide) rfl rfl f_X6 (by decide) t_1_156 rfl (by decide +kernel) rfl ?_
  refine s_iload_n C 0 1 dX6_init_86 rfl rfl ?_
  refine s_new (d := (10, 2, 6)) (ty := tyX0) C dX6_init_87 rfl rfl rfl f_X0 tyX0_ok (by decide +kernel) t_1_108 t_1_113 t_1_7 rfl (by decide) ⟨Nat.le_of_ble_eq_true rfl, Nat.le_of_ble_eq_true rfl⟩ ?_
  refine s_dup C dX6_init_90 ?_
  refine s_callIN (as := []) (st := [vR (10, 2, 6), vI (6 : Int32), vR (9, 2, 0)]) (mc := 0) (ms := 0) (n1 := 82) (k1 := 78) C dX6_init_91 (i_X0_init G z l (i := 81) rfl (by decide) (by decide) _) (by decide) t_1_115 t_1_7 rfl t_1_116 m_X0_init ⟨Nat.le_of_ble_eq_true rfl, Nat.le_of_ble_eq_true rfl⟩ ⟨rfl, rfl⟩ ⟨Nat.le_of_ble_eq_true rfl, Nat.le_of_ble_eq_true rfl⟩ rfl (by decide) rfl (Nat.le_of_ble_eq_true rfl) ?_
  refine s_aast (i := 74) (i2 := 81) (j := 6) C dX6_init_94 rfl (by decide) rfl (by decide) rfl rfl rfl rfl (by decide) (by decide) rfl rfl ?_
  refine s_iinc (v := (7 : Int32)) (ls2 := [(1, vI (7 : Int32)), (0, vR (7, 2, 0))]) C 0 dX6_init_95 rfl (by decide) (by decide) rfl ?_
  refine s_goto C 76 dX6_init_98 (by decide) ?_
  refine s_iload_n C 0 1 dX6_init_76 rfl rfl ?_
  refine s_bipush (v := (12 : Int32)) C dX6_init_77 rfl ?_
  refine s_geF C 101 dX6_init_79 (by decide) (by decide) ?_
  refine s_aload_n C 1 0 dX6_init_82 rfl rfl ?_
  refine s_getR (i := 72) (kf := 1) (d2 := (9, 2, 0)) C dX6_init_83 rfl (by decide) rfl rfl f_X6 (by decide) t_1_156 rfl (by decide +kernel) rfl ?_
  refine s_iload_n C 0 1 dX6_init_86 rfl rfl ?_
  refine s_new (d := (10, 2, 7)) (ty := tyX0) C dX6_init_87 rfl rfl rfl f_X0 tyX0_ok (by decide +kernel) t_1_108 t_1_113 t_1_7 rfl (by decide) ⟨Nat.le_of_ble_eq_true rfl, Nat.le_of_ble_eq_true rfl⟩ ?_
  refine s_dup C dX6_init_90 ?_
  refine s_callIN (as := []) (st := [vR (10, 2, 7), vI (7 : Int32), vR (9, 2, 0)]) (mc := 0) (ms := 0) (n1 := 83) (k1 := 79) C dX6_init_91 (i_X0_init G z l (i := 82) rfl (by decide) (by decide) _) (by decide) t_1_115 t_1_7 rfl t_1_116 m_X0_init ⟨Nat.le_of_ble_eq_true rfl, Nat.le_of_ble_eq_true rfl⟩ ⟨rfl, rfl⟩ ⟨Nat.le_of_ble_eq_true rfl, Nat.le_of_ble_eq_true rfl⟩ rfl (by decide) rfl (Nat.le_of_ble_eq_true rfl) ?_
  refine s_aast (i := 74) (i2 := 82) (j := 7) C dX6_init_94 rfl (by decide) rfl (by decide) rfl rfl rfl rfl (by decide) (by decide) rfl rfl ?_
  refine s_iinc (v := (8 : Int32)) (ls2 := [(1, vI (8 : Int32)), (0, vR (7, 2, 0))]) C 0 dX6_init_95 rfl (by decide) (by decide) rfl ?_
  refine s_goto C 76 dX6_init_98 (by decide) ?_
  refine s_iload_n C 0 1 dX6_init_76 rfl rfl ?_
  refine s_bipush (v := (12 : Int32)) C dX6_init_77 rfl ?_
  refine s_geF C 101 dX6_init_79 (by decide) (by decide) ?_
  refine s_aload_n C 1 0 dX6_init_82 rfl rfl ?_
  refine s_getR (i := 72) (kf := 1) (d2 := (9, 2, 0)) C dX6_init_83 rfl (by decide) rfl rfl f_X6 (by decide) t_1_156 rfl (by decide +kernel) rfl ?_
  refine s_iload_n C 0 1 dX6_init_86 rfl rfl ?_
  refine s_new (d := (10, 2, 8)) (ty := tyX0) C dX6_init_87 rfl rfl rfl f_X0 tyX0_ok (by decide +kernel) t_1_108 t_1_113 t_1_7 rfl (by decide) ⟨Nat.le_of_ble_eq_true rfl, Nat.le_of_ble_eq_true rfl⟩ ?_
  refine s_dup C dX6_init_90 ?_
  refine s_callIN (as := []) (st := [vR (10, 2, 8), vI (8 : Int32), vR (9, 2, 0)]) (mc := 0) (ms := 0) (n1 := 84) (k1 := 80) C dX6_init_91 (i_X0_init G z l (i := 83) rfl (by decide) (by decide) _) (by decide) t_1_115 t_1_7 rfl t_1_116 m_X0_init ⟨Nat.le_of_ble_eq_true rfl, Nat.le_of_ble_eq_true rfl⟩ ⟨rfl, rfl⟩ ⟨Nat.le_of_ble_eq_true rfl, Nat.le_of_ble_eq_true rfl⟩ rfl (by decide) rfl (Nat.le_of_ble_eq_true rfl) ?_
  refine s_aast (i := 74) (i2 := 83) (j := 8) C dX6_init_94 rfl (by decide) rfl (by decide) rfl rfl rfl rfl (by decide) (by decide) rfl rfl ?_
  refine s_iinc (v := (9 : Int32)) (ls2 := [(1, vI (9 : Int32)), (0, vR (7, 2, 0))]) C 0 dX6_init_95 rfl (by decide) (by decide) rfl ?_
  refine s_goto C 76 dX6_init_98 (by decide) ?_
  refine s_iload_n C 0 1 dX6_init_76 rfl rfl ?_
  refine s_bipush (v := (12 : Int32)) C dX6_init_77 rfl ?_
  refine s_geF C 101 dX6_init_79 (by decide) (by decide) ?_
  refine s_aload_n C 1 0 dX6_init_82 rfl rfl ?_
  refine s_getR (i := 72) (kf := 1) (d2 := (9, 2, 0)) C dX6_init_83 rfl (by decide) rfl rfl f_X6 (by decide) t_1_156 rfl (by decide +kernel) rfl ?_
  refine s_iload_n C 0 1 dX6_init_86 rfl rfl ?_
  refine s_new (d := (10, 2, 9)) (ty := tyX0) C dX6_init_87 rfl rfl rfl f_X0 tyX0_ok (by decide +kernel) t_1_108 t_1_113 t_1_7 rfl (by decide) ⟨Nat.le_of_ble_eq_true rfl, Nat.le_of_ble_eq_true rfl⟩ ?_
  refine s_dup C dX6_init_90 ?_
  refine s_callIN (as := []) (st := [vR (10, 2, 9), vI (9 : Int32), vR (9, 2, 0)]) (mc := 0) (ms := 0) (n1 := 85) (k1 := 81) C dX6_init_91 (i_X0_init G z l (i := 84) rfl (by decide) (by decide) _) (by decide) t_1_115 t_1_7 rfl t_1_116 m_X0_init ⟨Nat.le_of_ble_eq_true rfl, Nat.le_of_ble_eq_true rfl⟩ ⟨rfl, rfl⟩ ⟨Nat.le_of_ble_eq_true rfl, Nat.le_of_ble_eq_true rfl⟩ rfl (by decide) rfl (Nat.le_of_ble_eq_true rfl) ?_
  refine s_aast (i := 74) (i2 := 84) (j := 9) C dX6_init_94 rfl (by decide) rfl (by decide) rfl rfl rfl rfl (by decide) (by decide) rfl rfl ?_
  refine s_iinc (v := (10 : Int32)) (ls2 := [(1, vI (10 : Int32)), (0, vR (7, 2, 0))]) C 0 dX6_init_95 rfl (by decide) (by decide) rfl ?_
  refine s_goto C 76 dX6_init_98 (by decide) ?_
  refine s_iload_n C 0 1 dX6_init_76 rfl rfl ?_
  refine s_bipush (v := (12 : Int32)) C dX6_init_77 rfl ?_
  refine s_geF C 101 dX6_init_79 (by decide) (by decide) ?_
  refine s_aload_n C 1 0 dX6_init_82 rfl rfl ?_
  refine s_getR (i := 72) (kf := 1) (d2 := (9, 2, 0)) C dX6_init_83 rfl (by decide) rfl rfl f_X6 (by decide) t_1_156 rfl (by decide +kernel) rfl ?_
  refine s_iload_n C 0 1 dX6_init_86 rfl rfl ?_
  refine s_new (d := (10, 2, 10)) (ty := tyX0) C dX6_init_87 rfl rfl rfl f_X0 tyX0_ok (by decide +kernel) t_1_108 t_1_113 t_1_7 rfl (by decide) ⟨Nat.le_of_ble_eq_true rfl, Nat.le_of_ble_eq_true rfl⟩ ?_
  refine s_dup C dX6_init_90 ?_
  refine s_callIN (as := []) (st := [vR (10, 2, 10), vI (10 : Int32), vR (9, 2, 0)]) (mc := 0) (ms := 0) (n1 := 86) (k1 := 82) C dX6_init_91 (i_X0_init G z l (i := 85) rfl (by decide) (by decide) _) (by decide) t_1_115 t_1_7 rfl t_1_116 m_X0_init ⟨Nat.le_of_ble_eq_true rfl, Nat.le_of_ble_eq_true rfl⟩ ⟨rfl, rfl⟩ ⟨Nat.le_of_ble_eq_true rfl, Nat.le_of_ble_eq_true rfl⟩ rfl (by decide) rfl (Nat.le_of_ble_eq_true rfl) ?_
  refine s_aast (i := 74) (i2 := 85) (j := 10) C dX6_init_94 rfl (by decide) rfl (by decide) rfl rfl rfl rfl (by decide) (by decide) rfl rfl ?_
  refine s_iinc (v := (11 : Int32)) (ls2 := [(1, vI (11 : Int32)), (0, vR (7, 2, 0))]) C 0 dX6_init_95 rfl (by decide) (by decide) rfl ?_
  refine s_goto C 76 dX6_init_98 (by decide) ?_
  refine s_iload_n C 0 1 dX6_init_76 rfl rfl ?_
  refine s_bipush (v := (12 : Int32)) C dX6_init_77 rfl ?_
  refine s_geF C 101 dX6_init_79 (by decide) (by decide) ?_
  refine s_aload_n C 1 0 dX6_init_82 rfl rfl ?_
  refine s_getR (i := 72) (kf := 1) (d2 := (9, 2, 0)) C dX6_init_83 rfl (by decide) rfl rfl f_X6 (by decide) t_1_156 rfl (by decide +kernel) rfl ?_
  refine s_iload_n C 0 1 dX6_init_86 rfl rfl ?_
  refine s_new (d := (10, 2, 11)) (ty := tyX0) C dX6_init_87 rfl rfl rfl f_X0 tyX0_ok (by decide +kernel) t_1_108 t_1_113 t_1_7 rfl (by decide) ⟨Nat.le_of_ble_eq_true rfl, Nat.le_of_ble_eq_true rfl⟩ ?_
  refine s_dup C dX6_init_90 ?_
  refine s_callIN (as := []) (st := [vR (10, 2, 11), vI (11 : Int32), vR (9, 2, 0)]) (mc := 0) (ms := 0) (n1 := 87) (k1 := 83) C dX6_init_91 (i_X0_init G z l (i := 86) rfl (by decide) (by decide) _) (by decide) t_1_115 t_1_7 rfl t_1_116 m_X0_init ⟨Nat.le_of_ble_eq_true rfl, Nat.le_of_ble_eq_true rfl⟩ ⟨rfl, rfl⟩ ⟨Nat.le_of_ble_eq_true rfl, Nat.le_of_ble_eq_true rfl⟩ rfl (by decide) rfl (Nat.le_of_ble_eq_true rfl) ?_
  refine s_aast (i := 74) (i2 := 86) (j := 11) C dX6_init_94 rfl (by decide) rfl (by decide) rfl rfl rfl rfl (by decide) (by decide) rfl rfl ?_
  refine s_iinc (v := (12 : Int32)) (ls2 := [(1, vI (12 : Int32)), (0, vR (7, 2, 0))]) C 0 dX6_init_95 rfl (by decide) (by decide) rfl ?_
  refine s_goto C 76 dX6_init_98 (by decide) ?_
  refine s_iload_n C 0 1 dX6_init_76 rfl rfl ?_
  refine s_bipush (v := (12 : Int32)) C dX6_init_77 rfl ?_
  refine s_geT C 101 dX6_init_79 (by decide) (by decide) ?_
  exact s_return C dX6_init_101 rfl rfl (by decide)
def k_X1_72 (σ : St) : St := (uI (k_X6_73 (uR σ (7, 2, 0) (fun _ => 0))) (12, 1, 0) 1 (0 : Int32))
set_option maxHeartbeats 4000000 in
set_option maxRecDepth 20000 in
theorem i_X1_72 (G : Gx) (z : Nat) (l : Launch) (σ : St) : SpS G z l yX1_init cX1_init 1 none (rmC 3 15 191) 72 70 [vR (12, 1, 0)] σ (va_Qv (fun b => b = k_X1_72 σ) (fun u => WdS G z 87 85 u) (AZ z)) 15 191 := by
  refine SpS_of (own := RX1) (by decide) rfl (Nat.le_of_ble_eq_true rfl) ?_
  intro p e s m args below meth c C hI
  show Rs G z p l e (rmC 3 15 191) s m args below meth c (MQ below _ args s 15 191 (AZ z)) 1 0 0 72 70 0 [(0, vR (12, 1, 0))] [] σ
  refine s_aload_n C 0 0 dX1_init_0 rfl rfl ?_
  refine s_objInit C dX1_init_1 t_2_67 t_1_27 t_1_28 ⟨Nat.le_of_ble_eq_true rfl, Nat.le_of_ble_eq_true rfl⟩ ?_
  refine s_aload_n C 0 0 dX1_init_4 rfl rfl ?_
  refine s_new (d := (7, 2, 0)) (ty := tyX6) C dX1_init_5 rfl rfl rfl f_X6 tyX6_ok (by decide +kernel) t_2_68 t_1_103 t_1_5 rfl (by decide) ⟨Nat.le_of_ble_eq_true rfl, Nat.le_of_ble_eq_true rfl⟩ ?_
  refine s_dup C dX1_init_8 ?_
  refine s_callI (as := []) (st := [vR (7, 2, 0), vR (12, 1, 0)]) (mc := 14) (ms := 180) (n1 := 87) (k1 := 84) C dX1_init_9 (i_X6_73 G z l _) t_2_69 t_1_105 t_1_5 rfl t_1_106 m_X6_init ⟨Nat.le_of_ble_eq_true rfl, Nat.le_of_ble_eq_true rfl⟩ ⟨rfl, rfl⟩ ⟨Nat.le_of_ble_eq_true rfl, Nat.le_of_ble_eq_true rfl⟩ rfl (by decide) rfl (Nat.le_of_ble_eq_true rfl) ?_
  refine s_putR (i := 71) (kf := 0) (ty0 := tyX1) C hI dX1_init_12 rfl (by decide) rfl rfl f_X1 tyX1_ok nmX1 (by decide) t_2_70 rfl rfl rfl rfl rfl (fun _ => rfl) (fun _ => rfl) ?_
  refine s_aload_n C 0 0 dX1_init_15 rfl rfl ?_
  refine s_iconst (v := (0 : Int32)) C dX1_init_16 rfl ?_
  refine s_putI (i := 71) (kf := 1) (ty0 := tyX1) C dX1_init_17 rfl (by decide) rfl rfl f_X1 tyX1_ok nmX1 (by decide) t_2_72 rfl rfl (nar_z (Or.inl rfl)) (fit_z (Or.inl rfl)) ?_
  exact s_return C dX1_init_20 rfl rfl (by decide)
def k_X7_88 (σ : St) : St := (uI (uI (uR σ (27, 0, 0) (fun _ => 0)) (26, 0, 0) 1 (-1 : Int32)) (26, 0, 0) 2 (0 : Int32))
set_option maxHeartbeats 4000000 in
set_option maxRecDepth 20000 in
theorem i_X7_88 (G : Gx) (z : Nat) (l : Launch) (σ : St) : SpS G z l yX7_init cX7_init 1 none (rmC 1 1 40) 88 86 [vR (26, 0, 0)] σ (va_Qv (fun b => b = k_X7_88 σ) (fun u => WdS G z 89 87 u) (AZ z)) 1 40 := by
  refine SpS_of (own := RX7) (by decide) rfl (Nat.le_of_ble_eq_true rfl) ?_
  intro p e s m args below meth c C hI
  show Rs G z p l e (rmC 1 1 40) s m args below meth c (MQ below _ args s 1 40 (AZ z)) 1 0 0 88 86 0 [(0, vR (26, 0, 0))] [] σ
  refine s_aload_n C 0 0 dX7_init_0 rfl rfl ?_
  refine s_objInit C dX7_init_1 t_2_83 t_1_27 t_1_28 ⟨Nat.le_of_ble_eq_true rfl, Nat.le_of_ble_eq_true rfl⟩ ?_
  refine s_aload_n C 0 0 dX7_init_4 rfl rfl ?_
  refine s_bipush (v := (40 : Int32)) C dX7_init_5 rfl ?_
  refine s_newa (d := (27, 0, 0)) (ty := .int) C dX7_init_7 rfl rfl (by decide) rfl rfl rfl (fun _ h => h) t_1_55 ⟨by decide, by decide, by decide⟩ rfl (by decide) ⟨Nat.le_of_ble_eq_true rfl, Nat.le_of_ble_eq_true rfl⟩ ?_
  refine s_putR (i := 87) (kf := 0) (ty0 := tyX7) C hI dX7_init_9 rfl (by decide) rfl rfl f_X7 tyX7_ok nmX7 (by decide) t_2_84 rfl rfl rfl rfl rfl (fun _ => rfl) (fun _ => rfl) ?_
  refine s_aload_n C 0 0 dX7_init_12 rfl rfl ?_
  refine s_iconst (v := (-1 : Int32)) C dX7_init_13 rfl ?_
  refine s_putI (i := 87) (kf := 1) (ty0 := tyX7) C dX7_init_14 rfl (by decide) rfl rfl f_X7 tyX7_ok nmX7 (by decide) t_2_85 rfl rfl rfl rfl ?_
  refine s_aload_n C 0 0 dX7_init_17 rfl rfl ?_
  refine s_iconst (v := (0 : Int32)) C dX7_init_18 rfl ?_
  refine s_putI (i := 87) (kf := 2) (ty0 := tyX7) C dX7_init_19 rfl (by decide) rfl rfl f_X7 tyX7_ok nmX7 (by decide) t_2_87 rfl rfl rfl rfl ?_
  exact s_return C dX7_init_22 rfl rfl (by decide)
def k_X7_90 (σ : St) : St := (uI (uI (uR σ (27, 1, 0) (fun _ => 0)) (26, 1, 0) 1 (-1 : Int32)) (26, 1, 0) 2 (0 : Int32))
set_option maxHeartbeats 4000000 in
set_option maxRecDepth 20000 in
theorem i_X7_90 (G : Gx) (z : Nat) (l : Launch) (σ : St) : SpS G z l yX7_init cX7_init 1 none (rmC 1 1 40) 90 88 [vR (26, 1, 0)] σ (va_Qv (fun b => b = k_X7_90 σ) (fun u => WdS G z 91 89 u) (AZ z)) 1 40 := by
  refine SpS_of (own := RX7) (by decide) rfl (Nat.le_of_ble_eq_true rfl) ?_
  intro p e s m args below meth c C hI
  show Rs G z p l e (rmC 1 1 40) s m args below meth c (MQ below _ args s 1 40 (AZ z)) 1 0 0 90 88 0 [(0, vR (26, 1, 0))] [] σ
  refine s_aload_n C 0 0 dX7_init_0 rfl rfl ?_
  refine s_objInit C dX7_init_1 t_2_83 t_1_27 t_1_28 ⟨Nat.le_of_ble_eq_true rfl, Nat.le_of_ble_eq_true rfl⟩ ?_
  refine s_aload_n C 0 0 dX7_init_4 rfl rfl ?_
  refine s_bipush (v := (40 : Int32)) C dX7_init_5 rfl ?_
  refine s_newa (d := (27, 1, 0)) (ty := .int) C dX7_init_7 rfl rfl (by decide) rfl rfl rfl (fun _ h => h) t_1_55 ⟨by decide, by decide, by decide⟩ rfl (by decide) ⟨Nat.le_of_ble_eq_true rfl, Nat.le_of_ble_eq_true rfl⟩ ?_
  refine s_putR (i := 89) (kf := 0) (ty0 := tyX7) C hI dX7_init_9 rfl (by decide) rfl rfl f_X7 tyX7_ok nmX7 (by decide) t_2_84 rfl rfl rfl rfl rfl (fun _ => rfl) (fun _ => rfl) ?_
  refine s_aload_n C 0 0 dX7_init_12 rfl rfl ?_
  refine s_iconst (v := (-1 : Int32)) C dX7_init_13 rfl ?_
  refine s_putI (i := 89) (kf := 1) (ty0 := tyX7) C dX7_init_14 rfl (by decide) rfl rfl f_X7 tyX7_ok nmX7 (by decide) t_2_85 rfl rfl rfl rfl ?_
  refine s_aload_n C 0 0 dX7_init_17 rfl rfl ?_
  refine s_iconst (v := (0 : Int32)) C dX7_init_18 rfl ?_
  refine s_putI (i := 89) (kf := 2) (ty0 := tyX7) C dX7_init_19 rfl (by decide) rfl rfl f_X7 tyX7_ok nmX7 (by decide) t_2_87 rfl rfl rfl rfl ?_
  exact s_return C dX7_init_22 rfl rfl (by decide)
def k_X7_92 (σ : St) : St := (uI (uI (uR σ (27, 2, 0) (fun _ => 0)) (26, 2, 0) 1 (-1 : Int32)) (26, 2, 0) 2 (0 : Int32))
set_option maxHeartbeats 4000000 in
set_option maxRecDepth 20000 in
theorem i_X7_92 (G : Gx) (z : Nat) (l : Launch) (σ : St) : SpS G z l yX7_init cX7_init 1 none (rmC 1 1 40) 92 90 [vR (26, 2, 0)] σ (va_Qv (fun b => b = k_X7_92 σ) (fun u => WdS G z 93 91 u) (AZ z)) 1 40 := by
  refine SpS_of (own := RX7) (by decide) rfl (Nat.le_of_ble_eq_true rfl) ?_
  intro p e s m args below meth c C hI
  show Rs G z p l e (rmC 1 1 40) s m args below meth c (MQ below _ args s 1 40 (AZ z)) 1 0 0 92 90 0 [(0, vR (26, 2, 0))] [] σ
  refine s_aload_n C 0 0 dX7_init_0 rfl rfl ?_
  refine s_objInit C dX7_init_1 t_2_83 t_1_27 t_1_28 ⟨Nat.le_of_ble_eq_true rfl, Nat.le_of_ble_eq_true rfl⟩ ?_
  refine s_aload_n C 0 0 dX7_init_4 rfl rfl ?_
  refine s_bipush (v := (40 : Int32)) C dX7_init_5 rfl ?_
  refine s_newa (d := (27, 2, 0)) (ty := .int) C dX7_init_7 rfl rfl (by decide) rfl rfl rfl (fun _ h => h) t_1_55 ⟨by decide, by decide, by decide⟩ rfl (by decide) ⟨Nat.le_of_ble_eq_true rfl, Nat.le_of_ble_eq_true rfl⟩ ?_
  refine s_putR (i := 91) (kf := 0) (ty0 := tyX7) C hI dX7_init_9 rfl (by decide) rfl rfl f_X7 tyX7_ok nmX7 (by decide) t_2_84 rfl rfl rfl rfl rfl (fun _ => rfl) (fun _ => rfl) ?_
  refine s_aload_n C 0 0 dX7_init_12 rfl rfl ?_
  refine s_iconst (v := (-1 : Int32)) C dX7_init_13 rfl ?_
  refine s_putI (i := 91) (kf := 1) (ty0 := tyX7) C dX7_init_14 rfl (by decide) rfl rfl f_X7 tyX7_ok nmX7 (by decide) t_2_85 rfl rfl rfl rfl ?_
  refine s_aload_n C 0 0 dX7_init_17 rfl rfl ?_
  refine s_iconst (v := (0 : Int32)) C dX7_init_18 rfl ?_
  refine s_putI (i := 91) (kf := 2) (ty0 := tyX7) C dX7_init_19 rfl (by decide) rfl rfl f_X7 tyX7_ok nmX7 (by decide) t_2_87 rfl rfl rfl rfl ?_
  exact s_return C dX7_init_22 rfl rfl (by decide)
def k_X7_94 (σ : St) : St := (uI (uI (uR σ (27, 3, 0) (fun _ => 0)) (26, 3, 0) 1 (-1 : Int32)) (26, 3, 0) 2 (0 : Int32))
set_option maxHeartbeats 4000000 in
set_option maxRecDepth 20000 in
theorem i_X7_94 (G : Gx) (z : Nat) (l : Launch) (σ : St) : SpS G z l yX7_init cX7_init 1 none (rmC 1 1 40) 94 92 [vR (26, 3, 0)] σ (va_Qv (fun b => b = k_X7_94 σ) (fun u => WdS G z 95 93 u) (AZ z)) 1 40 := by
  refine SpS_of (own := RX7) (by decide) rfl (Nat.le_of_ble_eq_true rfl) ?_
  intro p e s m args below meth c C hI
  show Rs G z p l e (rmC 1 1 40) s m args below meth c (MQ below _ args s 1 40 (AZ z)) 1 0 0 94 92 0 [(0, vR (26, 3, 0))] [] σ
  refine s_aload_n C 0 0 dX7_init_0 rfl rfl ?_
  refine s_objInit C dX7_init_1 t_2_83 t_1_27 t_1_28 ⟨Nat.le_of_ble_eq_true rfl, Nat.le_of_ble_eq_true rfl⟩ ?_
  refine s_aload_n C 0 0 dX7_init_4 rfl rfl ?_
  refine s_bipush (v := (40 : Int32)) C dX7_init_5 rfl ?_
  refine s_newa (d := (27, 3, 0)) (ty := .int) C dX7_init_7 rfl rfl (by decide) rfl rfl rfl (fun _ h => h) t_1_55 ⟨by decide, by decide, by decide⟩ rfl (by decide) ⟨Nat.le_of_ble_eq_true rfl, Nat.le_of_ble_eq_true rfl⟩ ?_
  refine s_putR (i := 93) (kf := 0) (ty0 := tyX7) C hI dX7_init_9 rfl (by decide) rfl rfl f_X7 tyX7_ok nmX7 (by decide) t_2_84 rfl rfl rfl rfl rfl (fun _ => rfl) (fun _ => rfl) ?_
  refine s_aload_n C 0 0 dX7_init_12 rfl rfl ?_
  refine s_iconst (v := (-1 : Int32)) C dX7_init_13 rfl ?_
  refine s_putI (i := 93) (kf := 1) (ty0 := tyX7) C dX7_init_14 rfl (by decide) rfl rfl f_X7 tyX7_ok nmX7 (by decide) t_2_85 rfl rfl rfl rfl ?_
  refine s_aload_n C 0 0 dX7_init_17 rfl rfl ?_
  refine s_iconst (v := (0 : Int32)) C dX7_init_18 rfl ?_
  refine s_putI (i := 93) (kf := 2) (ty0 := tyX7) C dX7_init_19 rfl (by decide) rfl rfl f_X7 tyX7_ok nmX7 (by decide) t_2_87 rfl rfl rfl rfl ?_
  exact s_return C dX7_init_22 rfl rfl (by decide)
def k_X10_1 (σ : St) : St := (k_X7_94 (uR (k_X7_92 (uR (k_X7_90 (uR (k_X7_88 (uR (k_X1_72 (uR (k_X1_56 (uR (uI (k_X9_50 (uR (k_X4_47 (uR (k_X3_44 (uR (k_X2_26 (uR (k_X6_10 (uR (k_X5_8 (uR (uI (uI (k_X8_2 (uR σ (2, 0, 0) (fun _ => 0))) (0, 0, 0) 1 (0 : Int32)) (0, 0, 0) 2 (0 : Int32)) (3, 0, 0) (fun _ => 0))) (7, 0, 0) (fun _ => 0))) (13, 0, 0) (fun _ => 0))) (16, 0, 0) (fun _ => 0))) (18, 0, 0) (fun _ => 0))) (20, 0, 0) (fun _ => 0))) (0, 0, 0) 11 (0 : Int32)) (12, 0, 0) (fun _ => 0))) (12, 1, 0) (fun _ => 0))) (26, 0, 0) (fun _ => 0))) (26, 1, 0) (fun _ => 0))) (26, 2, 0) (fun _ => 0))) (26, 3, 0) (fun _ => 0)))
set_option maxHeartbeats 4000000 in
set_option maxRecDepth 20000 in
theorem i_X10_1 (G : Gx) (z : Nat) (l : Launch) (σ : St) : SpS G z l yX10_init cX10_init 2 none (rmC 4 94 2245) 1 0 [vR (0, 0, 0)] σ (va_Qv (fun b => b = k_X10_1 σ) (fun u => WdS G z 95 94 u) (AZ z)) 94 2245 := by
  refine SpS_of (own := RX10) (by decide) rfl (Nat.le_of_ble_eq_true rfl) ?_
  intro p e s m args below meth c C hI
  show Rs G z p l e (rmC 4 94 2245) s m args below meth c (MQ below _ args s 94 2245 (AZ z)) 2 0 0 1 0 0 [(0, vR (0, 0, 0))] [] σ
  refine s_aload_n C 0 0 dX10_init_0 rfl rfl ?_
  refine s_objInit C dX10_init_1 t_1_26 t_1_27 t_1_28 ⟨Nat.le_of_ble_eq_true rfl, Nat.le_of_ble_eq_true rfl⟩ ?_
  refine s_aload_n C 0 0 dX10_init_4 rfl rfl ?_
  refine s_new (d := (2, 0, 0)) (ty := tyX8) C dX10_init_5 rfl rfl rfl f_X8 tyX8_ok (by decide +kernel) t_1_29 t_1_30 t_1_2 rfl (by decide) ⟨Nat.le_of_ble_eq_true rfl, Nat.le_of_ble_eq_true rfl⟩ ?_
  refine s_dup C dX10_init_8 ?_
  refine s_callIN (as := []) (st := [vR (2, 0, 0), vR (0, 0, 0)]) (mc := 5) (ms := 435) (n1 := 7) (k1 := 5) C dX10_init_9 (i_X8_2 G z l _) (by decide) t_1_32 t_1_2 rfl t_1_33 m_X8_init ⟨Nat.le_of_ble_eq_true rfl, Nat.le_of_ble_eq_true rfl⟩ ⟨rfl, rfl⟩ ⟨Nat.le_of_ble_eq_true rfl, Nat.le_of_ble_eq_true rfl⟩ rfl (by decide) rfl (Nat.le_of_ble_eq_true rfl) ?_
  refine s_putR (i := 0) (kf := 0) (ty0 := tyX10) C hI dX10_init_12 rfl (by decide) rfl rfl f_X10 tyX10_ok nmX10 (by decide) t_2_96 rfl rfl rfl rfl rfl (fun _ => rfl) (fun _ => rfl) ?_
  refine s_aload_n C 0 0 dX10_init_15 rfl rfl ?_
  refine s_iconst (v := (0 : Int32)) C dX10_init_16 rfl ?_
  refine s_putI (i := 0) (kf := 1) (ty0 := tyX10) C dX10_init_17 rfl (by decide) rfl rfl f_X10 tyX10_ok nmX10 (by decide) t_2_97 rfl rfl rfl rfl ?_
  refine s_aload_n C 0 0 dX10_init_20 rfl rfl ?_
  refine s_iconst (v := (0 : Int32)) C dX10_init_21 rfl ?_
  refine s_putI (i := 0) (kf := 2) (ty0 := tyX10) C dX10_init_22 rfl (by decide) rfl rfl f_X10 tyX10_ok nmX10 (by decide) t_2_98 rfl rfl rfl rfl ?_
  refine s_aload_n C 0 0 dX10_init_25 rfl rfl ?_
  refine s_new (d := (3, 0, 0)) (ty := tyX5) C dX10_init_26 rfl rfl rfl f_X5 tyX5_ok (by decide +kernel) t_1_100 t_1_36 t_1_3 rfl (by decide) ⟨Nat.le_of_ble_eq_true rfl, Nat.le_of_ble_eq_true rfl⟩ ?_
  refine s_dup C dX10_init_29 ?_
  refine s_callI (as := []) (st := [vR (3, 0, 0), vR (0, 0, 0)]) (mc := 1) (ms := 9) (n1 := 9) (k1 := 7) C dX10_init_30 (i_X5_8 G z l _) t_1_101 t_1_38 t_1_3 rfl t_1_39 m_X5_init ⟨Nat.le_of_ble_eq_true rfl, Nat.le_of_ble_eq_true rfl⟩ ⟨rfl, rfl⟩ ⟨Nat.le_of_ble_eq_true rfl, Nat.le_of_ble_eq_true rfl⟩ rfl (by decide) rfl (Nat.le_of_ble_eq_true rfl) ?_
  refine s_putR (i := 0) (kf := 3) (ty0 := tyX10) C hI dX10_init_33 rfl (by decide) rfl rfl f_X10 tyX10_ok nmX10 (by decide) t_2_99 rfl rfl rfl rfl rfl (fun _ => rfl) (fun _ => rfl) ?_
  refine s_aload_n C 0 0 dX10_init_36 rfl rfl ?_
  refine s_new (d := (7, 0, 0)) (ty := tyX6) C dX10_init_37 rfl rfl rfl f_X6 tyX6_ok (by decide +kernel) t_1_102 t_1_103 t_1_5 rfl (by decide) ⟨Nat.le_of_ble_eq_true rfl, Nat.le_of_ble_eq_true rfl⟩ ?_
  refine s_dup C dX10_init_40 ?_
  refine s_callI (as := []) (st := [vR (7, 0, 0), vR (0, 0, 0)]) (mc := 14) (ms := 180) (n1 := 24) (k1 := 22) C dX10_init_41 (i_X6_10 G z l _) t_1_104 t_1_105 t_1_5 rfl t_1_106 m_X6_init ⟨Nat.le_of_ble_eq_true rfl, Nat.le_of_ble_eq_true rfl⟩ ⟨rfl, rfl⟩ ⟨Nat.le_of_ble_eq_true rfl, Nat.le_of_ble_eq_true rfl⟩ rfl (by decide) rfl (Nat.le_of_ble_eq_true rfl) ?_
  refine s_putR (i := 0) (kf := 4) (ty0 := tyX10) C hI dX10_init_44 rfl (by decide) rfl rfl f_X10 tyX10_ok nmX10 (by decide) t_2_100 rfl rfl rfl rfl rfl (fun _ => rfl) (fun _ => rfl) ?_
  refine s_aload_n C 0 0 dX10_init_47 rfl rfl ?_
  refine s_iconst (v := (2 : Int32)) C dX10_init_48 rfl ?_
  refine s_newq (d := (11, 0, 0)) C dX10_init_49 rfl rfl rfl (by decide) (by decide +kernel) t_1_200 ⟨by decide, by decide, by decide⟩ rfl (by decide) ⟨Nat.le_of_ble_eq_true rfl, Nat.le_of_ble_eq_true rfl⟩ ?_
  refine s_putR (i := 0) (kf := 5) (ty0 := tyX10) C hI dX10_init_52 rfl (by decide) rfl rfl f_X10 tyX10_ok nmX10 (by decide) t_2_101 rfl rfl rfl rfl rfl (fun _ => rfl) (fun _ => rfl) ?_
  refine s_aload_n C 0 0 dX10_init_55 rfl rfl ?_
  refine s_new (d := (13, 0, 0)) (ty := tyX2) C dX10_init_56 rfl rfl rfl f_X2 tyX2_ok (by decide +kernel) t_1_202 t_1_203 t_1_8 rfl (by decide) ⟨Nat.le_of_ble_eq_true rfl, Nat.le_of_ble_eq_true rfl⟩ ?_
  refine s_dup C dX10_init_59 ?_
  refine s_callIN (as := []) (st := [vR (13, 0, 0), vR (0, 0, 0)]) (mc := 17) (ms := 383) (n1 := 43) (k1 := 41) C dX10_init_60 (i_X2_26 G z l _) (by decide) t_1_205 t_1_8 rfl t_1_206 m_X2_init ⟨Nat.le_of_ble_eq_true rfl, Nat.le_of_ble_eq_true rfl⟩ ⟨rfl, rfl⟩ ⟨Nat.le_of_ble_eq_true rfl, Nat.le_of_ble_eq_true rfl⟩ rfl (by decide) rfl (Nat.le_of_ble_eq_true rfl) ?_
  refine s_putR (i := 0) (kf := 6) (ty0 := tyX10) C hI dX10_init_63 rfl (by decide) rfl rfl f_X10 tyX10_ok nmX10 (by decide) t_2_102 rfl rfl rfl rfl rfl (fun _ => rfl) (fun _ => rfl) ?_
  refine s_aload_n C 0 0 dX10_init_66 rfl rfl ?_
  refine s_new (d := (16, 0, 0)) (ty := tyX3) C dX10_init_67 rfl rfl rfl f_X3 tyX3_ok (by decide +kernel) t_2_1 t_2_2 t_1_9 rfl (by decide) ⟨Nat.le_of_ble_eq_true rfl, Nat.le_of_ble_eq_true rfl⟩ ?_
  refine s_dup C dX10_init_70 ?_
  refine s_callIN (as := []) (st := [vR (16, 0, 0), vR (0, 0, 0)]) (mc := 2) (ms := 390) (n1 := 46) (k1 := 44) C dX10_init_71 (i_X3_44 G z l _) (by decide) t_2_4 t_1_9 rfl t_2_5 m_X3_init ⟨Nat.le_of_ble_eq_true rfl, Nat.le_of_ble_eq_true rfl⟩ ⟨rfl, rfl⟩ ⟨Nat.le_of_ble_eq_true rfl, Nat.le_of_ble_eq_true rfl⟩ rfl (by decide) rfl (Nat.le_of_ble_eq_true rfl) ?_
  refine s_putR (i := 0) (kf := 7) (ty0 := tyX10) C hI dX10_init_74 rfl (by decide) rfl rfl f_X10 tyX10_ok nmX10 (by decide) t_2_103 rfl rfl rfl rfl rfl (fun _ => rfl) (fun _ => rfl) ?_
  refine s_aload_n C 0 0 dX10_init_77 rfl rfl ?_
  refine s_new (d := (18, 0, 0)) (ty := tyX4) C dX10_init_78 rfl rfl rfl f_X4 tyX4_ok (by decide +kernel) t_2_24 t_2_25 t_1_10 rfl (by decide) ⟨Nat.le_of_ble_eq_true rfl, Nat.le_of_ble_eq_true rfl⟩ ?_
  refine s_dup C dX10_init_81 ?_
  refine s_callIN (as := []) (st := [vR (18, 0, 0), vR (0, 0, 0)]) (mc := 2) (ms := 192) (n1 := 49) (k1 := 47) C dX10_init_82 (i_X4_47 G z l _) (by decide) t_2_27 t_1_10 rfl t_2_28 m_X4_init ⟨Nat.le_of_ble_eq_true rfl, Nat.le_of_ble_eq_true rfl⟩ ⟨rfl, rfl⟩ ⟨Nat.le_of_ble_eq_true rfl, Nat.le_of_ble_eq_true rfl⟩ rfl (by decide) rfl (Nat.le_of_ble_eq_true rfl) ?_
  refine s_putR (i := 0) (kf := 8) (ty0 := tyX10) C hI dX10_init_85 rfl (by decide) rfl rfl f_X10 tyX10_ok nmX10 (by decide) t_2_104 rfl rfl rfl rfl rfl (fun _ => rfl) (fun _ => rfl) ?_
  refine s_aload_n C 0 0 dX10_init_88 rfl rfl ?_
  refine s_new (d := (20, 0, 0)) (ty := tyX9) C dX10_init_89 rfl rfl rfl f_X9 tyX9_ok (by decide +kernel) t_2_38 t_2_39 t_1_11 rfl (by decide) ⟨Nat.le_of_ble_eq_true rfl, Nat.le_of_ble_eq_true rfl⟩ ?_
  refine s_dup C dX10_init_92 ?_
  refine s_callIN (as := []) (st := [vR (20, 0, 0), vR (0, 0, 0)]) (mc := 4) (ms := 48) (n1 := 54) (k1 := 52) C dX10_init_93 (i_X9_50 G z l _) (by decide) t_2_41 t_1_11 rfl t_2_42 m_X9_init ⟨Nat.le_of_ble_eq_true rfl, Nat.le_of_ble_eq_true rfl⟩ ⟨rfl, rfl⟩ ⟨Nat.le_of_ble_eq_true rfl, Nat.le_of_ble_eq_true rfl⟩ rfl (by decide) rfl (Nat.le_of_ble_eq_true rfl) ?_
  refine s_putR (i := 0) (kf := 9) (ty0 := tyX10) C hI dX10_init_96 rfl (by decide) rfl rfl f_X10 tyX10_ok nmX10 (by decide) t_2_105 rfl rfl rfl rfl rfl (fun _ => rfl) (fun _ => rfl) ?_
  refine s_aload_n C 0 0 dX10_init_99 rfl rfl ?_
  refine s_iconst (v := (4 : Int32)) C dX10_init_100 rfl ?_
  refine s_newq (d := (25, 0, 0)) C dX10_init_101 rfl rfl rfl (by decide) (by decide +kernel) t_2_61 ⟨by decide, by decide, by decide⟩ rfl (by decide) ⟨Nat.le_of_ble_eq_true rfl, Nat.le_of_ble_eq_true rfl⟩ ?_
  refine s_putR (i := 0) (kf := 10) (ty0 := tyX10) C hI dX10_init_104 rfl (by decide) rfl rfl f_X10 tyX10_ok nmX10 (by decide) t_2_106 rfl rfl rfl rfl rfl (fun _ => rfl) (fun _ => rfl) ?_
  refine s_aload_n C 0 0 dX10_init_107 rfl rfl ?_
  refine s_iconst (v := (0 : Int32)) C dX10_init_108 rfl ?_
  refine s_putI (i := 0) (kf := 11) (ty0 := tyX10) C dX10_init_109 rfl (by decide) rfl rfl f_X10 tyX10_ok nmX10 (by decide) t_2_107 rfl rfl rfl rfl ?_
  refine s_iconst (v := (0 : Int32)) C dX10_init_112 rfl ?_
  refine s_istore_n (ls2 := [(1, vI (0 : Int32)), (0, vR (0, 0, 0))]) C dX10_init_113 1 rfl (by decide) rfl ?_
  refine s_iload_n C 0 1 dX10_init_114 rfl rfl ?_
  refine s_iconst (v := (2 : Int32)) C dX10_init_115 rfl ?_
  refine s_geF C 138 dX10_init_116 (by decide) (by decide) ?_
  refine s_aload_n C 1 0 dX10_init_119 rfl rfl ?_
  refine s_getR (i := 0) (kf := 5) (d2 := (11, 0, 0)) C dX10_init_120 rfl (by decide) rfl rfl f_X10 (by decide) t_2_101 rfl (by decide +kernel) rfl ?_
  refine s_iload_n C 0 1 dX10_init_123 rfl rfl ?_
  refine s_new (d := (12, 0, 0)) (ty := tyX1) C dX10_init_124 rfl rfl rfl f_X1 tyX1_ok (by decide +kernel) t_1_200 t_2_63 t_1_12 rfl (by decide) ⟨Nat.le_of_ble_eq_true rfl, Nat.le_of_ble_eq_true rfl⟩ ?_
  refine s_dup C dX10_init_127 ?_
  refine s_callIN (as := []) (st := [vR (12, 0, 0), vI (0 : Int32), vR (11, 0, 0)]) (mc := 15) (ms := 191) (n1 := 71) (k1 := 69) C dX10_init_128 (i_X1_56 G z l _) (by decide) t_2_65 t_1_12 rfl t_2_66 m_X1_init ⟨Nat.le_of_ble_eq_true rfl, Nat.le_of_ble_eq_true rfl⟩ ⟨rfl, rfl⟩ ⟨Nat.le_of_ble_eq_true rfl, Nat.le_of_ble_eq_true rfl⟩ rfl (by decide) rfl (Nat.le_of_ble_eq_true rfl) ?_
  refine s_aast (i := 24) (i2 := 55) (j := 0) C dX10_init_131 rfl (by decide) rfl (by decide) rfl rfl rfl rfl (by decide) (by decide) rfl rfl ?_
  refine s_iinc (v := (1 : Int32)) (ls2 := [(1, vI (1 : Int32)), (0, vR (0, 0, 0))]) C 0 dX10_init_132 rfl (by decide) (by decide) rfl ?_
  refine s_goto C 114 dX10_init_135 (by decide) ?_
  refine s_iload_n C 0 1 dX10_init_114 rfl rfl ?_
  refine s_iconst (v := (2 : Int32)) C dX10_init_115 rfl ?_
  refine s_geF C 138 dX10_init_116 (by decide) (by decide) ?_
  refine s_aload_n C 1 0 dX10_init_119 rfl rfl ?_
  refine s_getR (i := 0) (kf := 5) (d2 := (11, 0, 0)) C dX10_init_120 rfl (by decide) rfl rfl f_X10 (by decide) t_2_101 rfl (by decide +kernel) rfl ?_
  refine s_iload_n C 0 1 dX10_init_123 rfl rfl ?_
  refine s_new (d := (12, 1, 0)) (ty := tyX1) C dX10_init_124 rfl rfl rfl f_X1 tyX1_ok (by decide +kernel) t_1_200 t_2_63 t_1_12 rfl (by decide) ⟨Nat.le_of_ble_eq_true rfl, Nat.le_of_ble_eq_true rfl⟩ ?_
  refine s_dup C dX10_init_127 ?_
  refine s_callIN (as := []) (st := [vR (12, 1, 0), vI (1 : Int32), vR (11, 0, 0)]) (mc := 15) (ms := 191) (n1 := 87) (k1 := 85) C dX10_init_128 (i_X1_72 G z l _) (by decide) t_2_65 t_1_12 rfl t_2_66 m_X1_init ⟨Nat.le_of_ble_eq_true rfl, Nat.le_of_ble_eq_true rfl⟩ ⟨rfl, rfl⟩ ⟨Nat.le_of_ble_eq_true rfl, Nat.le_of_ble_eq_true rfl⟩ rfl (by decide) rfl (Nat.le_of_ble_eq_true rfl) ?_
  refine s_aast (i := 24) (i2 := 71) (j := 1) C dX10_init_131 rfl (by decide) rfl (by decide) rfl rfl rfl rfl (by decide) (by decide) rfl rfl ?_
  refine s_iinc (v := (2 : Int32)) (ls2 := [(1, vI (2 : Int32)), (0, vR (0, 0, 0))]) C 0 dX10_init_132 rfl (by decide) (by decide) rfl ?_
  refine s_goto C 114 dX10_init_135 (by decide) ?_
  refine s_iload_n C 0 1 dX10_init_114 rfl rfl ?_
  refine s_iconst (v := (2 : Int32)) C dX10_init_115 rfl ?_
  refine s_geT C 138 dX10_init_116 (by decide) (by decide) ?_
  refine s_iconst (v := (0 : Int32)) C dX10_init_138 rfl ?_
  refine s_istore_n (ls2 := [(1, vI (0 : Int32)), (0, vR (0, 0, 0))]) C dX10_init_139 1 rfl (by decide) rfl ?_
  refine s_iload_n C 0 1 dX10_init_140 rfl rfl ?_
  refine s_iconst (v := (4 : Int32)) C dX10_init_141 rfl ?_
  refine s_geF C 164 dX10_init_142 (by decide) (by decide) ?_
  refine s_aload_n C 1 0 dX10_init_145 rfl rfl ?_
  refine s_getR (i := 0) (kf := 10) (d2 := (25, 0, 0)) C dX10_init_146 rfl (by decide) rfl rfl f_X10 (by decide) t_2_106 rfl (by decide +kernel) rfl ?_
  refine s_iload_n C 0 1 dX10_init_149 rfl rfl ?_
  refine s_new (d := (26, 0, 0)) (ty := tyX7) C dX10_init_150 rfl rfl rfl f_X7 tyX7_ok (by decide +kernel) t_2_61 t_2_79 t_1_13 rfl (by decide) ⟨Nat.le_of_ble_eq_true rfl, Nat.le_of_ble_eq_true rfl⟩ ?_
  refine s_dup C dX10_init_153 ?_
  refine s_callIN (as := []) (st := [vR (26, 0, 0), vI (0 : Int32), vR (25, 0, 0)]) (mc := 1) (ms := 40) (n1 := 89) (k1 := 87) C dX10_init_154 (i_X7_88 G z l _) (by decide) t_2_81 t_1_13 rfl t_2_82 m_X7_init ⟨Nat.le_of_ble_eq_true rfl, Nat.le_of_ble_eq_true rfl⟩ ⟨rfl, rfl⟩ ⟨Nat.le_of_ble_eq_true rfl, Nat.le_of_ble_eq_true rfl⟩ rfl (by decide) rfl (Nat.le_of_ble_eq_true rfl) ?_
  refine s_aast (i := 54) (i2 := 87) (j := 0) C dX10_init_157 rfl (by decide) rfl (by decide) rfl rfl rfl rfl (by decide) (by decide) rfl rfl ?_
  refine s_iinc (v := (1 : Int32)) (ls2 := [(1, vI (1 : Int32)), (0, vR (0, 0, 0))]) C 0 dX10_init_158 rfl (by decide) (by decide) rfl ?_
  refine s_goto C 140 dX10_init_161 (by decide) ?_
  refine s_iload_n C 0 1 dX10_init_140 rfl rfl ?_
  refine s_iconst (v := (4 : Int32)) C dX10_init_141 rfl ?_
  refine s_geF C 164 dX10_init_142 (by decide) (by decide) ?_
  refine s_aload_n C 1 0 dX10_init_145 rfl rfl ?_
  refine s_getR (i := 0) (kf := 10) (d2 := (25, 0, 0)) C dX10_init_146 rfl (by decide) rfl rfl f_X10 (by decide) t_2_106 rfl (by decide +kernel) rfl ?_
  refine s_iload_n C 0 1 dX10_init_149 rfl rfl ?_
  refine s_new (d := (26, 1, 0)) (ty := tyX7) C dX10_init_150 rfl rfl rfl f_X7 tyX7_ok (by decide +kernel) t_2_61 t_2_79 t_1_13 rfl (by decide) ⟨Nat.le_of_ble_eq_true rfl, Nat.le_of_ble_eq_true rfl⟩ ?_
  refine s_dup C dX10_init_153 ?_
  refine s_callIN (as := []) (st := [vR (26, 1, 0), vI (1 : Int32), vR (25, 0, 0)]) (mc := 1) (ms := 40) (n1 := 91) (k1 := 89) C dX10_init_154 (i_X7_90 G z l _) (by decide) t_2_81 t_1_13 rfl t_2_82 m_X7_init ⟨Nat.le_of_ble_eq_true rfl, Nat.le_of_ble_eq_true rfl⟩ ⟨rfl, rfl⟩ ⟨Nat.le_of_ble_eq_true rfl, Nat.le_of_ble_eq_true rfl⟩ rfl (by decide) rfl (Nat.le_of_ble_eq_true rfl) ?_
  refine s_aast (i := 54) (i2 := 89) (j := 1) C dX10_init_157 rfl (by decide) rfl (by decide) rfl rfl rfl rfl (by decide) (by decide) rfl rfl ?_
  refine s_iinc (v := (2 : Int32)) (ls2 := [(1, vI (2 : Int32)), (0, vR (0, 0, 0))]) C 0 dX10_init_158 rfl (by decide) (by decide) rfl ?_
  refine s_goto C 140 dX10_init_161 (by decide) ?_
  refine s_iload_n C 0 1 dX10_init_140 rfl rfl ?_
  refine s_iconst (v := (4 : Int32)) C dX10_init_141 rfl ?_
  refine s_geF C 164 dX10_init_142 (by decide) (by decide) ?_
  refine s_aload_n C 1 0 dX10_init_145 rfl rfl ?_
  refine s_getR (i := 0) (kf := 10) (d2 := (25, 0, 0)) C dX10_init_146 rfl (by decide) rfl rfl f_X10 (by decide) t_2_106 rfl (by decide +kernel) rfl ?_
  refine s_iload_n C 0 1 dX10_init_149 rfl rfl ?_
  refine s_new (d := (26, 2, 0)) (ty := tyX7) C dX10_init_150 rfl rfl rfl f_X7 tyX7_ok (by decide +kernel) t_2_61 t_2_79 t_1_13 rfl (by decide) ⟨Nat.le_of_ble_eq_true rfl, Nat.le_of_ble_eq_true rfl⟩ ?_
  refine s_dup C dX10_init_153 ?_
  refine s_callIN (as := []) (st := [vR (26, 2, 0), vI (2 : Int32), vR (25, 0, 0)]) (mc := 1) (ms := 40) (n1 := 93) (k1 := 91) C dX10_init_154 (i_X7_92 G z l _) (by decide) t_2_81 t_1_13 rfl t_2_82 m_X7_init ⟨Nat.le_of_ble_eq_true rfl, Nat.le_of_ble_eq_true rfl⟩ ⟨rfl, rfl⟩ ⟨Nat.le_of_ble_eq_true rfl, Nat.le_of_ble_eq_true rfl⟩ rfl (by decide) rfl (Nat.le_of_ble_eq_true rfl) ?_
  refine s_aast (i := 54) (i2 := 91) (j := 2) C dX10_init_157 rfl (by decide) rfl (by decide) rfl rfl rfl rfl (by decide) (by decide) rfl rfl ?_
  refine s_iinc (v := (3 : Int32)) (ls2 := [(1, vI (3 : Int32)), (0, vR (0, 0, 0))]) C 0 dX10_init_158 rfl (by decide) (by decide) rfl ?_
  refine s_goto C 140 dX10_init_161 (by decide) ?_
  refine s_iload_n C 0 1 dX10_init_140 rfl rfl ?_
  refine s_iconst (v := (4 : Int32)) C dX10_init_141 rfl ?_
  refine s_geF C 164 dX10_init_142 (by decide) (by decide) ?_
  refine s_aload_n C 1 0 dX10_init_145 rfl rfl ?_
  refine s_getR (i := 0) (kf := 10) (d2 := (25, 0, 0)) C dX10_init_146 rfl (by decide) rfl rfl f_X10 (by decide) t_2_106 rfl (by decide +kernel) rfl ?_
  refine s_iload_n C 0 1 dX10_init_149 rfl rfl ?_
  refine s_new (d := (26, 3, 0)) (ty := tyX7) C dX10_init_150 rfl rfl rfl f_X7 tyX7_ok (by decide +kernel) t_2_61 t_2_79 t_1_13 rfl (by decide) ⟨Nat.le_of_ble_eq_true rfl, Nat.le_of_ble_eq_true rfl⟩ ?_
  refine s_dup C dX10_init_153 ?_
  refine s_callIN (as := []) (st := [vR (26, 3, 0), vI (3 : Int32), vR (25, 0, 0)]) (mc := 1) (ms := 40) (n1 := 95) (k1 := 93) C dX10_init_154 (i_X7_94 G z l _) (by decide) t_2_81 t_1_13 rfl t_2_82 m_X7_init ⟨Nat.le_of_ble_eq_true rfl, Nat.le_of_ble_eq_true rfl⟩ ⟨rfl, rfl⟩ ⟨Nat.le_of_ble_eq_true rfl, Nat.le_of_ble_eq_true rfl⟩ rfl (by decide) rfl (Nat.le_of_ble_eq_true rfl) ?_
  refine s_aast (i := 54) (i2 := 93) (j := 3) C dX10_init_157 rfl (by decide) rfl (by decide) rfl rfl rfl rfl (by decide) (by decide) rfl rfl ?_
  refine s_iinc (v := (4 : Int32)) (ls2 := [(1, vI (4 : Int32)), (0, vR (0, 0, 0))]) C 0 dX10_init_158 rfl (by decide) (by decide) rfl ?_
  refine s_goto C 140 dX10_init_161 (by decide) ?_
  refine s_iload_n C 0 1 dX10_init_140 rfl rfl ?_
  refine s_iconst (v := (4 : Int32)) C dX10_init_141 rfl ?_
  refine s_geT C 164 dX10_init_142 (by decide) (by decide) ?_
  exact s_return C dX10_init_164 rfl rfl (by decide)
