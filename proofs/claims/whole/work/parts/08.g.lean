def L_X10_right_4  : Nat → Int32 → Int32 → St → Option (Int32 × St)
  | 0, _, _, _ => none
  | n + 1, v1, v2, τ =>
  (if (τ.1 (20, 0, 0) 4) ≤ v2 then some (v1, τ) else bd (F_X5_value 0 (0 : Int32) τ) fun r2 σ1 => bd (F_X9_isSo v2 0 r2 σ1) fun r5 σ4 => nam (fun (y7 : Int32) (σ9 : St) => nam (v2 + (1 : Int32)) fun x10 => L_X10_right_4 n y7 x10 σ9) fun k8 => (if r5 = 0 then k8 v1 σ4 else nam (v1 ||| ((1 : Int32) <<< (v2 &&& 31))) fun x11 => k8 x11 σ4))
def F_X10_right  (σ : St) : Option (Int32 × St) :=
  L_X10_right_4  FU (0 : Int32) (0 : Int32) σ 
set_option maxRecDepth 20000 in
set_option maxHeartbeats 4000000 in
theorem l_X10_right_4 {G : Gx} {p : Program} {l : Launch} {e : Env} {s : State} {m : MethodId} {args : Array Value} {below : List Frame} {meth : Method} {c : Code} (C : Cx G p s m args meth c (some .int) 3 RX10 cX10_right)  {σ' : St} {r : Int32} : ∀ (n : Nat) (v1 : Int32) (v2 : Int32) (τ : St), L_X10_right_4  n v1 v2 τ = some (r, σ') → Rt G p l e (lvl 5) s m args below meth c 0 0 (MQ below (va_Qi (fun a b => a = r ∧ b = σ') (Wd G) (AG G)) args s 0 0 (AG G)) 3 4 [(0, vR (0, 0, 0)), (1, vI v1), (2, vI v2)] [] τ := by
  intro n
  induction n with
  | zero => intro v1 v2 τ hF; cases hF
  | succ n ih =>
    intro v1 v2 τ hF
    unfold L_X10_right_4 at hF
    refine r_iload_n C 2 2 dX10_right_4 rfl rfl ?_
    refine r_aload_n C 0 0 dX10_right_5 rfl rfl ?_
    refine r_getR (kf := 9) (d2 := (20, 0, 0)) C dX10_right_6 rfl rfl f_X10 (by decide) t_2_105 rfl rfl ?_
    refine r_getI (kf := 4) C dX10_right_9 rfl rfl f_X9 (by decide) t_2_49 rfl ?_
    refine r_icmp_ge C 50 dX10_right_12 (by decide)  (fun h13 => ?_) (fun h13 => ?_)
    · have hF := if_t h13 hF
      refine r_iload_n C 1 1 dX10_right_50 rfl rfl ?_
      exact r_ireturn C dX10_right_51 (rt_e hF)
    · have hF := if_f h13 hF
      refine r_aload_n C 0 0 dX10_right_15 rfl rfl ?_
      refine r_getR (kf := 9) (d2 := (20, 0, 0)) C dX10_right_16 rfl rfl f_X10 (by decide) t_2_105 rfl rfl ?_
      refine r_iload_n C 2 2 dX10_right_19 rfl rfl ?_
      refine r_aload_n C 0 0 dX10_right_20 rfl rfl ?_
      refine r_getR (kf := 3) (d2 := (3, 0, 0)) C dX10_right_21 rfl rfl f_X10 (by decide) t_2_99 rfl rfl ?_
      refine r_aload_n C 0 0 dX10_right_24 rfl rfl ?_
      refine r_getR (kf := 3) (d2 := (3, 0, 0)) C dX10_right_25 rfl rfl f_X10 (by decide) t_2_99 rfl rfl ?_
      refine r_iconst (v := (0 : Int32)) C dX10_right_28 rfl ?_
      obtain ⟨r2, σ1, e3, hF⟩ := bd_e hF
      refine r_callV_i (as := [vI (0 : Int32)]) (st := [vR (3, 0, 0), vI v2, vR (20, 0, 0)]) C dX10_right_29 (s_X5_value G l e3) rfl rfl rfl t_3_113 t_3_88 t_3_89 t_1_3 t_3_90 m_X5_value ⟨Nat.le_of_ble_eq_true rfl, Nat.le_of_ble_eq_true rfl⟩ ⟨rfl, rfl⟩ ⟨Nat.zero_le _, Nat.zero_le _⟩ rfl (Nat.le_of_ble_eq_true rfl) ?_
      obtain ⟨r5, σ4, e6, hF⟩ := bd_e hF
      refine r_callV_i (as := [vI v2, vR (3, 0, 0), vI r2]) (st := []) C dX10_right_32 (s_X9_isSo G l e6) rfl rfl rfl t_4_225 t_4_216 t_4_217 t_1_11 t_4_218 m_X9_isSo ⟨Nat.le_of_ble_eq_true rfl, Nat.le_of_ble_eq_true rfl⟩ ⟨rfl, rfl⟩ ⟨Nat.zero_le _, Nat.zero_le _⟩ rfl (Nat.le_of_ble_eq_true rfl) ?_
      obtain ⟨k8, ek8, hF⟩ := nam_e hF
      have hk8 : ∀ (y7 : Int32) (σ9 : St), k8 y7 σ9 = some (r, σ') → Rt G p l e (lvl 5) s m args below meth c 0 0 (MQ below (va_Qi (fun a b => a = r ∧ b = σ') (Wd G) (AG G)) args s 0 0 (AG G)) 3 44 [(0, vR (0, 0, 0)), (1, vI y7), (2, vI v2)] [] σ9 := by
        intro y7 σ9 hF
        subst ek8
        obtain ⟨x10, ex10, hF⟩ := nam_e hF
        refine r_iinc (v := x10) (ls2 := [(2, vI x10), (0, vR (0, 0, 0)), (1, vI y7)]) C 2 dX10_right_44 rfl ex10.symm (by decide) rfl ?_
        refine r_goto C 4 dX10_right_47 (by decide) ?_
        refine r_drop (ls2 := [(0, vR (0, 0, 0)), (1, vI y7), (2, vI x10)]) [1, 2, 0] rfl ?_
        exact ih _ _ _ hF
      refine r_if_eq C 44 dX10_right_35 (by decide)  (fun h12 => ?_) (fun h12 => ?_)
      · have hF := if_t h12 hF
        exact hk8 _ _ hF
      · have hF := if_f h12 hF
        refine r_iload_n C 1 1 dX10_right_38 rfl rfl ?_
        refine r_iconst (v := (1 : Int32)) C dX10_right_39 rfl ?_
        refine r_iload_n C 2 2 dX10_right_40 rfl rfl ?_
        refine r_ishl C dX10_right_41 ?_
        refine r_ior C dX10_right_42 ?_
        obtain ⟨x11, ex11, hF⟩ := nam_e hF
        refine r_topI ex11 ?_
        refine r_istore_n (ls2 := [(1, vI x11), (0, vR (0, 0, 0)), (2, vI v2)]) C dX10_right_43 1 rfl (by decide) rfl ?_
        refine r_drop (ls2 := [(0, vR (0, 0, 0)), (1, vI x11), (2, vI v2)]) [1, 0, 2] rfl ?_
        exact hk8 _ _ hF
set_option maxRecDepth 20000 in
set_option maxHeartbeats 4000000 in
theorem s_X10_right (G : Gx) (l : Launch)  {σ σ' : St} {r : Int32} (hF : F_X10_right  σ = some (r, σ')) : Sp G l yX10_right cX10_right 3 (some .int) (lvl 5) [vR (0, 0, 0)] σ (va_Qi (fun a b => a = r ∧ b = σ') (Wd G) (AG G)) := by
  refine Sp_of (own := RX10) (by decide) rfl (Nat.le_of_ble_eq_true rfl) ?_
  intro p e s m args below meth c C
  show Rt G p l e (lvl 5) s m args below meth c 0 0 (MQ below (va_Qi (fun a b => a = r ∧ b = σ') (Wd G) (AG G)) args s 0 0 (AG G)) 3 0 [(0, vR (0, 0, 0))] [] σ
  unfold F_X10_right at hF
  refine r_iconst (v := (0 : Int32)) C dX10_right_0 rfl ?_
  refine r_istore_n (ls2 := [(1, vI (0 : Int32)), (0, vR (0, 0, 0))]) C dX10_right_1 1 rfl (by decide) rfl ?_
  refine r_iconst (v := (0 : Int32)) C dX10_right_2 rfl ?_
  refine r_istore_n (ls2 := [(2, vI (0 : Int32)), (1, vI (0 : Int32)), (0, vR (0, 0, 0))]) C dX10_right_3 2 rfl (by decide) rfl ?_
  refine r_drop (ls2 := [(0, vR (0, 0, 0)), (1, vI (0 : Int32)), (2, vI (0 : Int32))]) [2, 1, 0] rfl ?_
  refine l_X10_right_4 C   _ _ _ _ hF
def F_X10_isSheet (a0 : Int32) (σ : St) : Option (Int32 × St) :=
  bd (F_X10_within a0 (0 : Int32) (3 : Int32) σ) fun r2 σ1 => ck (decide (r2 = 0 ∨ r2 = 1)) (some (r2, σ1))
set_option maxRecDepth 20000 in
set_option maxHeartbeats 4000000 in
theorem s_X10_isSheet (G : Gx) (l : Launch) {a0 : Int32} {σ σ' : St} {r : Int32} (hF : F_X10_isSheet a0 σ = some (r, σ')) : Sp G l yX10_isSheet cX10_isSheet 1 (some .boolean) (lvl 1) [vI a0] σ (va_Qi (fun a b => a = r ∧ b = σ') (Wd G) (AG G)) := by
  refine Sp_of (own := RX10) (by decide) rfl (Nat.le_of_ble_eq_true rfl) ?_
  intro p e s m args below meth c C
  show Rt G p l e (lvl 1) s m args below meth c 0 0 (MQ below (va_Qi (fun a b => a = r ∧ b = σ') (Wd G) (AG G)) args s 0 0 (AG G)) 1 0 [(0, vI a0)] [] σ
  unfold F_X10_isSheet at hF
  refine r_iload_n C 0 0 dX10_isSheet_0 rfl rfl ?_
  refine r_iconst (v := (0 : Int32)) C dX10_isSheet_1 rfl ?_
  refine r_iconst (v := (3 : Int32)) C dX10_isSheet_2 rfl ?_
  obtain ⟨r2, σ1, e3, hF⟩ := bd_e hF
  refine r_callS_i (as := [vI a0, vI (0 : Int32), vI (3 : Int32)]) (st := []) C dX10_isSheet_3 (s_X10_within G l e3) t_2_141 t_2_142 t_1_1 t_2_143 m_X10_within ⟨Nat.le_of_ble_eq_true rfl, Nat.le_of_ble_eq_true rfl⟩ ⟨rfl, rfl⟩ ⟨Nat.zero_le _, Nat.zero_le _⟩ rfl (Nat.le_of_ble_eq_true rfl) ?_
  obtain ⟨h4, hF⟩ := ck_e hF
  exact r_zreturn C dX10_isSheet_6 (nar_z (bz h4)) (rt_e hF)
def F_X10_isLane (a0 : Int32) (σ : St) : Option (Int32 × St) :=
  bd (F_X10_within a0 (0 : Int32) (2 : Int32) σ) fun r2 σ1 => ck (decide (r2 = 0 ∨ r2 = 1)) (some (r2, σ1))
set_option maxRecDepth 20000 in
set_option maxHeartbeats 4000000 in
theorem s_X10_isLane (G : Gx) (l : Launch) {a0 : Int32} {σ σ' : St} {r : Int32} (hF : F_X10_isLane a0 σ = some (r, σ')) : Sp G l yX10_isLane cX10_isLane 1 (some .boolean) (lvl 1) [vI a0] σ (va_Qi (fun a b => a = r ∧ b = σ') (Wd G) (AG G)) := by
  refine Sp_of (own := RX10) (by decide) rfl (Nat.le_of_ble_eq_true rfl) ?_
  intro p e s m args below meth c C
  show Rt G p l e (lvl 1) s m args below meth c 0 0 (MQ below (va_Qi (fun a b => a = r ∧ b = σ') (Wd G) (AG G)) args s 0 0 (AG G)) 1 0 [(0, vI a0)] [] σ
  unfold F_X10_isLane at hF
  refine r_iload_n C 0 0 dX10_isLane_0 rfl rfl ?_
  refine r_iconst (v := (0 : Int32)) C dX10_isLane_1 rfl ?_
  refine r_iconst (v := (2 : Int32)) C dX10_isLane_2 rfl ?_
  obtain ⟨r2, σ1, e3, hF⟩ := bd_e hF
  refine r_callS_i (as := [vI a0, vI (0 : Int32), vI (2 : Int32)]) (st := []) C dX10_isLane_3 (s_X10_within G l e3) t_2_141 t_2_142 t_1_1 t_2_143 m_X10_within ⟨Nat.le_of_ble_eq_true rfl, Nat.le_of_ble_eq_true rfl⟩ ⟨rfl, rfl⟩ ⟨Nat.zero_le _, Nat.zero_le _⟩ rfl (Nat.le_of_ble_eq_true rfl) ?_
  obtain ⟨h4, hF⟩ := ck_e hF
  exact r_zreturn C dX10_isLane_6 (nar_z (bz h4)) (rt_e hF)
def L_J7_fill_53178_t27_5 (q0 : Nat) (c1 : Int32) (c3 : Int32) : Nat → Int32 → St → Option (Unit × St)
  | 0, _, _ => none
  | n + 1, v2, τ =>
  (if c3 ≤ v2 then some ((), τ) else ck (inb v2 40) (nam (uI τ (27, q0, 0) (v2.toNatClampNeg) c1) fun σ2 => nam (v2 + (1 : Int32)) fun x3 => L_J7_fill_53178_t27_5 q0 c1 c3 n x3 σ2))
def F_J7_fill_53178_t27 (q0 : Nat) (a1 : Int32) (σ : St) : Option (Unit × St) :=
  L_J7_fill_53178_t27_5 q0 a1 (40 : Int32) FU (0 : Int32) σ 
set_option maxRecDepth 20000 in
set_option maxHeartbeats 4000000 in
theorem l_J7_fill_53178_t27_5 {G : Gx} {p : Program} {l : Launch} {e : Env} {s : State} {m : MethodId} {args : Array Value} {below : List Frame} {meth : Method} {c : Code} (C : Cx G p s m args meth c none 4 RJ7 cJ7_fill_53178) (q0 : Nat) (c1 : Int32) (c3 : Int32) {σ' : St}  : ∀ (n : Nat) (v2 : Int32) (τ : St), L_J7_fill_53178_t27_5 q0 c1 c3 n v2 τ = some ((), σ') → Rt G p l e (lvl 0) s m args below meth c 0 0 (MQ below (va_Qv (fun b => b = σ') (Wd G) (AG G)) args s 0 0 (AG G)) 4 5 [(0, vR (27, q0, 0)), (1, vI c1), (2, vI v2), (3, vI c3)] [] τ := by
  intro n
  induction n with
  | zero => intro v2 τ hF; cases hF
  | succ n ih =>
    intro v2 τ hF
    unfold L_J7_fill_53178_t27_5 at hF
    refine r_iload_n C 2 2 dJ7_fill_53178_5 rfl rfl ?_
    refine r_iload_n C 3 3 dJ7_fill_53178_6 rfl rfl ?_
    refine r_icmp_ge C 20 dJ7_fill_53178_7 (by decide)  (fun h4 => ?_) (fun h4 => ?_)
    · have hF := if_t h4 hF
      exact r_return C dJ7_fill_53178_20 (rv_e hF)
    · have hF := if_f h4 hF
      refine r_aload_n C 0 0 dJ7_fill_53178_10 rfl rfl ?_
      refine r_iload_n C 2 2 dJ7_fill_53178_11 rfl rfl ?_
      refine r_iload_n C 1 1 dJ7_fill_53178_12 rfl rfl ?_
      obtain ⟨h1, hF⟩ := ck_e hF
      obtain ⟨σ2, eσ2, hF⟩ := nam_e hF
      refine r_iastore C (v2.toNatClampNeg) dJ7_fill_53178_13 rfl h1 rfl eσ2 ?_
      obtain ⟨x3, ex3, hF⟩ := nam_e hF
      refine r_iinc (v := x3) (ls2 := [(2, vI x3), (0, vR (27, q0, 0)), (1, vI c1), (3, vI c3)]) C 2 dJ7_fill_53178_14 rfl ex3.symm (by decide) rfl ?_
      refine r_goto C 5 dJ7_fill_53178_17 (by decide) ?_
      refine r_drop (ls2 := [(0, vR (27, q0, 0)), (1, vI c1), (2, vI x3), (3, vI c3)]) [1, 2, 0, 3] rfl ?_
      exact ih _ _ hF
set_option maxRecDepth 20000 in
set_option maxHeartbeats 4000000 in
theorem s_J7_fill_53178_t27 (G : Gx) (l : Launch) {q0 : Nat} {a1 : Int32} {σ σ' : St}  (hF : F_J7_fill_53178_t27 q0 a1 σ = some ((), σ')) : Sp G l yJ7_fill_53178 cJ7_fill_53178 4 none (lvl 0) [vR (27, q0, 0), vI a1] σ (va_Qv (fun b => b = σ') (Wd G) (AG G)) := by
  refine Sp_of (own := RJ7) (by decide) rfl (Nat.le_of_ble_eq_true rfl) ?_
  intro p e s m args below meth c C
  show Rt G p l e (lvl 0) s m args below meth c 0 0 (MQ below (va_Qv (fun b => b = σ') (Wd G) (AG G)) args s 0 0 (AG G)) 4 0 [(0, vR (27, q0, 0)), (1, vI a1)] [] σ
  unfold F_J7_fill_53178_t27 at hF
  refine r_iconst (v := (0 : Int32)) C dJ7_fill_53178_0 rfl ?_
  refine r_istore_n (ls2 := [(2, vI (0 : Int32)), (0, vR (27, q0, 0)), (1, vI a1)]) C dJ7_fill_53178_1 2 rfl (by decide) rfl ?_
  refine r_aload_n C 1 0 dJ7_fill_53178_2 rfl rfl ?_
  refine r_alen (v := (40 : Int32)) C dJ7_fill_53178_3 rfl (by decide) rfl rfl ?_
  refine r_istore_n (ls2 := [(3, vI (40 : Int32)), (2, vI (0 : Int32)), (0, vR (27, q0, 0)), (1, vI a1)]) C dJ7_fill_53178_4 3 rfl (by decide) rfl ?_
  refine r_drop (ls2 := [(0, vR (27, q0, 0)), (1, vI a1), (2, vI (0 : Int32)), (3, vI (40 : Int32))]) [2, 3, 1, 0] rfl ?_
  refine l_J7_fill_53178_t27_5 C q0 a1 (40 : Int32)  _ _ _ hF
def F_X7_becomeNew (q0 : Nat) (a1 : Int32) (a2 : Int32) (σ : St) : Option (Unit × St) :=
  bd (F_J7_fill_53178_t27 q0 (0 : Int32) σ) fun _ σ1 => nam (uI σ1 (26, q0, 0) 1 a1) fun σ3 => nam (uI σ3 (26, q0, 0) 2 a2) fun σ4 => some ((), σ4)
set_option maxRecDepth 20000 in
set_option maxHeartbeats 4000000 in
theorem s_X7_becomeNew (G : Gx) (l : Launch) {q0 : Nat} {a1 : Int32} {a2 : Int32} {σ σ' : St}  (hF : F_X7_becomeNew q0 a1 a2 σ = some ((), σ')) : Sp G l yX7_becomeNew cX7_becomeNew 3 none (lvl 1) [vR (26, q0, 0), vI a1, vI a2] σ (va_Qv (fun b => b = σ') (Wd G) (AG G)) := by
  refine Sp_of (own := RX7) (by decide) rfl (Nat.le_of_ble_eq_true rfl) ?_
  intro p e s m args below meth c C
  show Rt G p l e (lvl 1) s m args below meth c 0 0 (MQ below (va_Qv (fun b => b = σ') (Wd G) (AG G)) args s 0 0 (AG G)) 3 0 [(0, vR (26, q0, 0)), (1, vI a1), (2, vI a2)] [] σ
  unfold F_X7_becomeNew at hF
  refine r_aload_n C 0 0 dX7_becomeNew_0 rfl rfl ?_
  refine r_getR (kf := 0) (d2 := (27, q0, 0)) C dX7_becomeNew_1 rfl rfl f_X7 (by decide) t_2_84 rfl rfl ?_
  refine r_iconst (v := (0 : Int32)) C dX7_becomeNew_4 rfl ?_
  obtain ⟨⟨⟩, σ1, e2, hF⟩ := bd_e hF
  refine r_callS_v (as := [vR (27, q0, 0), vI (0 : Int32)]) (st := []) C dX7_becomeNew_5 (s_J7_fill_53178_t27 G l e2) t_5_0 t_1_111 t_1_6 t_1_112 m_J7_fill_53178 ⟨Nat.le_of_ble_eq_true rfl, Nat.le_of_ble_eq_true rfl⟩ ⟨rfl, rfl⟩ ⟨Nat.zero_le _, Nat.zero_le _⟩ rfl (Nat.le_of_ble_eq_true rfl) ?_
  refine r_aload_n C 0 0 dX7_becomeNew_8 rfl rfl ?_
  refine r_iload_n C 1 1 dX7_becomeNew_9 rfl rfl ?_
  obtain ⟨σ3, eσ3, hF⟩ := nam_e hF
  refine r_put (kf := 1) (ty0 := tyX7) C dX7_becomeNew_10 rfl rfl f_X7 tyX7_ok nmX7 (by decide) t_2_85 rfl rfl rfl rfl eσ3 ?_
  refine r_aload_n C 0 0 dX7_becomeNew_13 rfl rfl ?_
  refine r_iload_n C 2 2 dX7_becomeNew_14 rfl rfl ?_
  obtain ⟨σ4, eσ4, hF⟩ := nam_e hF
  refine r_put (kf := 2) (ty0 := tyX7) C dX7_becomeNew_15 rfl rfl f_X7 tyX7_ok nmX7 (by decide) t_2_87 rfl rfl rfl rfl eσ4 ?_
  exact r_return C dX7_becomeNew_18 (rv_e hF)
def F_X10_sheet (a1 : Int32) (a2 : Int32) (a3 : Int32) (σ : St) : Option (Int32 × St) :=
  bd (F_X10_isSheet a1 σ) fun r2 σ1 => (if r2 = 0 then some ((-1 : Int32), σ1) else bd (F_X10_isLane a2 σ1) fun r5 σ4 => (if r5 = 0 then some ((-1 : Int32), σ4) else (if a3 ≤ (40 : Int32) then (if 0 ≤ a3 then ck (inb a1 4) (bd (F_X7_becomeNew (a1.toNatClampNeg) a2 a3 σ4) fun _ σ8 => some ((1 : Int32), σ8)) else some ((-14 : Int32), σ4)) else some ((-1 : Int32), σ4))))
set_option maxRecDepth 20000 in
set_option maxHeartbeats 4000000 in
theorem s_X10_sheet (G : Gx) (l : Launch) {a1 : Int32} {a2 : Int32} {a3 : Int32} {σ σ' : St} {r : Int32} (hF : F_X10_sheet a1 a2 a3 σ = some (r, σ')) : Sp G l yX10_sheet cX10_sheet 4 (some .int) (lvl 2) [vR (0, 0, 0), vI a1, vI a2, vI a3] σ (va_Qi (fun a b => a = r ∧ b = σ') (Wd G) (AG G)) := by
  refine Sp_of (own := RX10) (by decide) rfl (Nat.le_of_ble_eq_true rfl) ?_
  intro p e s m args below meth c C
  show Rt G p l e (lvl 2) s m args below meth c 0 0 (MQ below (va_Qi (fun a b => a = r ∧ b = σ') (Wd G) (AG G)) args s 0 0 (AG G)) 4 0 [(0, vR (0, 0, 0)), (1, vI a1), (2, vI a2), (3, vI a3)] [] σ
  unfold F_X10_sheet at hF
  refine r_iload_n C 1 1 dX10_sheet_0 rfl rfl ?_
  obtain ⟨r2, σ1, e3, hF⟩ := bd_e hF
  refine r_callS_i (as := [vI a1]) (st := []) C dX10_sheet_1 (s_X10_isSheet G l e3) t_4_230 t_4_231 t_1_1 t_4_232 m_X10_isSheet ⟨Nat.le_of_ble_eq_true rfl, Nat.le_of_ble_eq_true rfl⟩ ⟨rfl, rfl⟩ ⟨Nat.zero_le _, Nat.zero_le _⟩ rfl (Nat.le_of_ble_eq_true rfl) ?_
  refine r_if_eq C 20 dX10_sheet_4 (by decide)  (fun h13 => ?_) (fun h13 => ?_)
  · have hF := if_t h13 hF
    refine r_iconst (v := (-1 : Int32)) C dX10_sheet_20 rfl ?_
    exact r_ireturn C dX10_sheet_21 (rt_e hF)
  · have hF := if_f h13 hF
    refine r_iload_n C 2 2 dX10_sheet_7 rfl rfl ?_
    obtain ⟨r5, σ4, e6, hF⟩ := bd_e hF
    refine r_callS_i (as := [vI a2]) (st := []) C dX10_sheet_8 (s_X10_isLane G l e6) t_4_233 t_4_234 t_1_1 t_4_235 m_X10_isLane ⟨Nat.le_of_ble_eq_true rfl, Nat.le_of_ble_eq_true rfl⟩ ⟨rfl, rfl⟩ ⟨Nat.zero_le _, Nat.zero_le _⟩ rfl (Nat.le_of_ble_eq_true rfl) ?_
    refine r_if_eq C 20 dX10_sheet_11 (by decide)  (fun h12 => ?_) (fun h12 => ?_)
    · have hF := if_t h12 hF
      refine r_iconst (v := (-1 : Int32)) C dX10_sheet_20 rfl ?_
      exact r_ireturn C dX10_sheet_21 (rt_e hF)
    · have hF := if_f h12 hF
      refine r_iload_n C 3 3 dX10_sheet_14 rfl rfl ?_
      refine r_bipush (v := (40 : Int32)) C dX10_sheet_15 rfl ?_
      refine r_icmp_le C 22 dX10_sheet_17 (by decide)  (fun h11 => ?_) (fun h11 => ?_)
      · have hF := if_t h11 hF
        refine r_iload_n C 3 3 dX10_sheet_22 rfl rfl ?_
        refine r_if_ge C 29 dX10_sheet_23 (by decide)  (fun h10 => ?_) (fun h10 => ?_)
        · have hF := if_t h10 hF
          refine r_aload_n C 0 0 dX10_sheet_29 rfl rfl ?_
          refine r_getR (kf := 10) (d2 := (25, 0, 0)) C dX10_sheet_30 rfl rfl f_X10 (by decide) t_2_106 rfl rfl ?_
          refine r_iload_n C 1 1 dX10_sheet_33 rfl rfl ?_
          obtain ⟨h7, hF⟩ := ck_e hF
          refine r_aaload (cA := 0) (d2 := (26, (a1.toNatClampNeg), 0)) C dX10_sheet_34 rfl rfl h7 rfl ?_
          refine r_iload_n C 2 2 dX10_sheet_35 rfl rfl ?_
          refine r_iload_n C 3 3 dX10_sheet_36 rfl rfl ?_
          obtain ⟨⟨⟩, σ8, e9, hF⟩ := bd_e hF
          refine r_callV_v (as := [vI a2, vI a3]) (st := []) C dX10_sheet_37 (s_X7_becomeNew G l e9) rfl rfl rfl t_4_236 t_4_237 t_4_238 t_1_13 t_4_239 m_X7_becomeNew ⟨Nat.le_of_ble_eq_true rfl, Nat.le_of_ble_eq_true rfl⟩ ⟨rfl, rfl⟩ ⟨Nat.zero_le _, Nat.zero_le _⟩ rfl (Nat.le_of_ble_eq_true rfl) ?_
          refine r_iconst (v := (1 : Int32)) C dX10_sheet_40 rfl ?_
          exact r_ireturn C dX10_sheet_41 (rt_e hF)
        · have hF := if_f h10 hF
          refine r_bipush (v := (-14 : Int32)) C dX10_sheet_26 rfl ?_
          exact r_ireturn C dX10_sheet_28 (rt_e hF)
      · have hF := if_f h11 hF
        refine r_iconst (v := (-1 : Int32)) C dX10_sheet_20 rfl ?_
        exact r_ireturn C dX10_sheet_21 (rt_e hF)
def F_X7_faultAt (q0 : Nat) (a1 : Int32) (σ : St) : Option (Int32 × St) :=
  (if (σ.1 (26, q0, 0) 1) = (-1 : Int32) then some ((1 : Int32), σ) else (if a1 < 0 then some ((2 : Int32), σ) else (if a1 < (σ.1 (26, q0, 0) 2) then some ((0 : Int32), σ) else some ((2 : Int32), σ))))
set_option maxRecDepth 20000 in
set_option maxHeartbeats 4000000 in
theorem s_X7_faultAt (G : Gx) (l : Launch) {q0 : Nat} {a1 : Int32} {σ σ' : St} {r : Int32} (hF : F_X7_faultAt q0 a1 σ = some (r, σ')) : Sp G l yX7_faultAt cX7_faultAt 2 (some .int) (lvl 0) [vR (26, q0, 0), vI a1] σ (va_Qi (fun a b => a = r ∧ b = σ') (Wd G) (AG G)) := by
  refine Sp_of (own := RX7) (by decide) rfl (Nat.le_of_ble_eq_true rfl) ?_
  intro p e s m args below meth c C
  show Rt G p l e (lvl 0) s m args below meth c 0 0 (MQ below (va_Qi (fun a b => a = r ∧ b = σ') (Wd G) (AG G)) args s 0 0 (AG G)) 2 0 [(0, vR (26, q0, 0)), (1, vI a1)] [] σ
  unfold F_X7_faultAt at hF
  refine r_aload_n C 0 0 dX7_faultAt_0 rfl rfl ?_
  refine r_getI (kf := 1) C dX7_faultAt_1 rfl rfl f_X7 (by decide) t_2_85 rfl ?_
  refine r_iconst (v := (-1 : Int32)) C dX7_faultAt_4 rfl ?_
  refine r_icmp_ne C 10 dX7_faultAt_5 (by decide)  (fun h3 => ?_) (fun h3 => ?_)
  · have hF := if_f h3 hF
    refine r_iload_n C 1 1 dX7_faultAt_10 rfl rfl ?_
    refine r_if_lt C 22 dX7_faultAt_11 (by decide)  (fun h2 => ?_) (fun h2 => ?_)
    · have hF := if_t h2 hF
      refine r_iconst (v := (2 : Int32)) C dX7_faultAt_22 rfl ?_
      refine r_goto C 27 dX7_faultAt_23 (by decide) ?_
      exact r_ireturn C dX7_faultAt_27 (rt_e hF)
    · have hF := if_f h2 hF
      refine r_iload_n C 1 1 dX7_faultAt_14 rfl rfl ?_
      refine r_aload_n C 0 0 dX7_faultAt_15 rfl rfl ?_
      refine r_getI (kf := 2) C dX7_faultAt_16 rfl rfl f_X7 (by decide) t_2_87 rfl ?_
      refine r_icmp_lt C 26 dX7_faultAt_19 (by decide)  (fun h1 => ?_) (fun h1 => ?_)
      · have hF := if_t h1 hF
        refine r_iconst (v := (0 : Int32)) C dX7_faultAt_26 rfl ?_
        exact r_ireturn C dX7_faultAt_27 (rt_e hF)
      · have hF := if_f h1 hF
        refine r_iconst (v := (2 : Int32)) C dX7_faultAt_22 rfl ?_
        refine r_goto C 27 dX7_faultAt_23 (by decide) ?_
        exact r_ireturn C dX7_faultAt_27 (rt_e hF)
  · have hF := if_t h3 hF
    refine r_iconst (v := (1 : Int32)) C dX7_faultAt_8 rfl ?_
    exact r_ireturn C dX7_faultAt_9 (rt_e hF)
def F_X7_write (q0 : Nat) (a1 : Int32) (a2 : Int32) (σ : St) : Option (Unit × St) :=
  bd (F_X7_faultAt q0 a1 σ) fun r2 σ1 => (if r2 = 0 then nam (fun (y4 : Int32) (σ6 : St) => ck (inb a1 40) (nam (uI σ6 (27, q0, 0) (a1.toNatClampNeg) y4) fun σ8 => some ((), σ8))) fun k5 => (if (σ1.1 (26, q0, 0) 1) = 0 then k5 (a2.toInt8.toInt32) σ1 else (if (σ1.1 (26, q0, 0) 1) = (1 : Int32) then k5 (a2.toInt16.toInt32) σ1 else k5 a2 σ1)) else some ((), σ1))
set_option maxRecDepth 20000 in
set_option maxHeartbeats 4000000 in
theorem s_X7_write (G : Gx) (l : Launch) {q0 : Nat} {a1 : Int32} {a2 : Int32} {σ σ' : St}  (hF : F_X7_write q0 a1 a2 σ = some ((), σ')) : Sp G l yX7_write cX7_write 3 none (lvl 1) [vR (26, q0, 0), vI a1, vI a2] σ (va_Qv (fun b => b = σ') (Wd G) (AG G)) := by
  refine Sp_of (own := RX7) (by decide) rfl (Nat.le_of_ble_eq_true rfl) ?_
  intro p e s m args below meth c C
  show Rt G p l e (lvl 1) s m args below meth c 0 0 (MQ below (va_Qv (fun b => b = σ') (Wd G) (AG G)) args s 0 0 (AG G)) 3 0 [(0, vR (26, q0, 0)), (1, vI a1), (2, vI a2)] [] σ
  unfold F_X7_write at hF
  refine r_aload_n C 0 0 dX7_write_0 rfl rfl ?_
  refine r_iload_n C 1 1 dX7_write_1 rfl rfl ?_
  obtain ⟨r2, σ1, e3, hF⟩ := bd_e hF
  refine r_callV_i (as := [vI a1]) (st := []) C dX7_write_2 (s_X7_faultAt G l e3) rfl rfl rfl t_5_13 t_5_6 t_5_7 t_1_13 t_5_8 m_X7_faultAt ⟨Nat.le_of_ble_eq_true rfl, Nat.le_of_ble_eq_true rfl⟩ ⟨rfl, rfl⟩ ⟨Nat.zero_le _, Nat.zero_le _⟩ rfl (Nat.le_of_ble_eq_true rfl) ?_
  refine r_if_ne C 40 dX7_write_5 (by decide)  (fun h11 => ?_) (fun h11 => ?_)
  · have hF := if_f h11 hF
    exact r_return C dX7_write_40 (rv_e hF)
  · have hF := if_t h11 hF
    refine r_aload_n C 0 0 dX7_write_8 rfl rfl ?_
    refine r_getR (kf := 0) (d2 := (27, q0, 0)) C dX7_write_9 rfl rfl f_X7 (by decide) t_2_84 rfl rfl ?_
    refine r_iload_n C 1 1 dX7_write_12 rfl rfl ?_
    refine r_aload_n C 0 0 dX7_write_13 rfl rfl ?_
    refine r_getI (kf := 1) C dX7_write_14 rfl rfl f_X7 (by decide) t_2_85 rfl ?_
    obtain ⟨k5, ek5, hF⟩ := nam_e hF
    have hk5 : ∀ (y4 : Int32) (σ6 : St), k5 y4 σ6 = some ((), σ') → Rt G p l e (lvl 1) s m args below meth c 0 0 (MQ below (va_Qv (fun b => b = σ') (Wd G) (AG G)) args s 0 0 (AG G)) 3 39 [] [vI y4, vI a1, vR (27, q0, 0)] σ6 := by
      intro y4 σ6 hF
      subst ek5
      obtain ⟨h7, hF⟩ := ck_e hF
      obtain ⟨σ8, eσ8, hF⟩ := nam_e hF
      refine r_iastore C (a1.toNatClampNeg) dX7_write_39 rfl h7 rfl eσ8 ?_
      exact r_return C dX7_write_40 (rv_e hF)
    refine r_if_ne C 25 dX7_write_17 (by decide)  (fun h10 => ?_) (fun h10 => ?_)
    · have hF := if_f h10 hF
      refine r_aload_n C 0 0 dX7_write_25 rfl rfl ?_
      refine r_getI (kf := 1) C dX7_write_26 rfl rfl f_X7 (by decide) t_2_85 rfl ?_
      refine r_iconst (v := (1 : Int32)) C dX7_write_29 rfl ?_
      refine r_icmp_ne C 38 dX7_write_30 (by decide)  (fun h9 => ?_) (fun h9 => ?_)
      · have hF := if_f h9 hF
        refine r_iload_n C 2 2 dX7_write_38 rfl rfl ?_
        refine r_drop (ls2 := []) [] rfl ?_
        exact hk5 _ _ hF
      · have hF := if_t h9 hF
        refine r_iload_n C 2 2 dX7_write_33 rfl rfl ?_
        refine r_i2s C dX7_write_34 ?_
        refine r_goto C 39 dX7_write_35 (by decide) ?_
        refine r_drop (ls2 := []) [] rfl ?_
        exact hk5 _ _ hF
    · have hF := if_t h10 hF
      refine r_iload_n C 2 2 dX7_write_20 rfl rfl ?_
      refine r_i2b C dX7_write_21 ?_
      refine r_goto C 39 dX7_write_22 (by decide) ?_
      refine r_drop (ls2 := []) [] rfl ?_
      exact hk5 _ _ hF
def F_X10_lay (a1 : Int32) (a2 : Int32) (a3 : Int32) (σ : St) : Option (Int32 × St) :=
  bd (F_X10_isSheet a1 σ) fun r2 σ1 => (if r2 = 0 then some ((-1 : Int32), σ1) else ck (inb a1 4) (bd (F_X7_faultAt (a1.toNatClampNeg) a2 σ1) fun r6 σ5 => (if r6 = 0 then ck (inb a1 4) (bd (F_X7_write (a1.toNatClampNeg) a2 a3 σ5) fun _ σ9 => some ((1 : Int32), σ9)) else some ((-10 : Int32) - r6, σ5))))
set_option maxRecDepth 20000 in
set_option maxHeartbeats 4000000 in
theorem s_X10_lay (G : Gx) (l : Launch) {a1 : Int32} {a2 : Int32} {a3 : Int32} {σ σ' : St} {r : Int32} (hF : F_X10_lay a1 a2 a3 σ = some (r, σ')) : Sp G l yX10_lay cX10_lay 5 (some .int) (lvl 2) [vR (0, 0, 0), vI a1, vI a2, vI a3] σ (va_Qi (fun a b => a = r ∧ b = σ') (Wd G) (AG G)) := by
  refine Sp_of (own := RX10) (by decide) rfl (Nat.le_of_ble_eq_true rfl) ?_
  intro p e s m args below meth c C
  show Rt G p l e (lvl 2) s m args below meth c 0 0 (MQ below (va_Qi (fun a b => a = r ∧ b = σ') (Wd G) (AG G)) args s 0 0 (AG G)) 5 0 [(0, vR (0, 0, 0)), (1, vI a1), (2, vI a2), (3, vI a3)] [] σ
  unfold F_X10_lay at hF
  refine r_iload_n C 1 1 dX10_lay_0 rfl rfl ?_
  obtain ⟨r2, σ1, e3, hF⟩ := bd_e hF
  refine r_callS_i (as := [vI a1]) (st := []) C dX10_lay_1 (s_X10_isSheet G l e3) t_4_230 t_4_231 t_1_1 t_4_232 m_X10_isSheet ⟨Nat.le_of_ble_eq_true rfl, Nat.le_of_ble_eq_true rfl⟩ ⟨rfl, rfl⟩ ⟨Nat.zero_le _, Nat.zero_le _⟩ rfl (Nat.le_of_ble_eq_true rfl) ?_
  refine r_if_ne C 9 dX10_lay_4 (by decide)  (fun h12 => ?_) (fun h12 => ?_)
  · have hF := if_f h12 hF
    refine r_aload_n C 0 0 dX10_lay_9 rfl rfl ?_
    refine r_getR (kf := 10) (d2 := (25, 0, 0)) C dX10_lay_10 rfl rfl f_X10 (by decide) t_2_106 rfl rfl ?_
    refine r_iload_n C 1 1 dX10_lay_13 rfl rfl ?_
    obtain ⟨h4, hF⟩ := ck_e hF
    refine r_aaload (cA := 0) (d2 := (26, (a1.toNatClampNeg), 0)) C dX10_lay_14 rfl rfl h4 rfl ?_
    refine r_iload_n C 2 2 dX10_lay_15 rfl rfl ?_
    obtain ⟨r6, σ5, e7, hF⟩ := bd_e hF
    refine r_callV_i (as := [vI a2]) (st := []) C dX10_lay_16 (s_X7_faultAt G l e7) rfl rfl rfl t_5_5 t_5_6 t_5_7 t_1_13 t_5_8 m_X7_faultAt ⟨Nat.le_of_ble_eq_true rfl, Nat.le_of_ble_eq_true rfl⟩ ⟨rfl, rfl⟩ ⟨Nat.zero_le _, Nat.zero_le _⟩ rfl (Nat.le_of_ble_eq_true rfl) ?_
    refine r_istore (ls2 := [(4, vI r6), (0, vR (0, 0, 0)), (1, vI a1), (2, vI a2), (3, vI a3)]) C dX10_lay_19 (by decide) rfl ?_
    refine r_iload C 0 dX10_lay_21 rfl ?_
    refine r_if_eq C 32 dX10_lay_23 (by decide)  (fun h11 => ?_) (fun h11 => ?_)
    · have hF := if_t h11 hF
      refine r_aload_n C 1 0 dX10_lay_32 rfl rfl ?_
      refine r_getR (kf := 10) (d2 := (25, 0, 0)) C dX10_lay_33 rfl rfl f_X10 (by decide) t_2_106 rfl rfl ?_
      refine r_iload_n C 2 1 dX10_lay_36 rfl rfl ?_
      obtain ⟨h8, hF⟩ := ck_e hF
      refine r_aaload (cA := 0) (d2 := (26, (a1.toNatClampNeg), 0)) C dX10_lay_37 rfl rfl h8 rfl ?_
      refine r_iload_n C 3 2 dX10_lay_38 rfl rfl ?_
      refine r_iload_n C 4 3 dX10_lay_39 rfl rfl ?_
      obtain ⟨⟨⟩, σ9, e10, hF⟩ := bd_e hF
      refine r_callV_v (as := [vI a2, vI a3]) (st := []) C dX10_lay_40 (s_X7_write G l e10) rfl rfl rfl t_5_9 t_5_10 t_5_11 t_1_13 t_5_12 m_X7_write ⟨Nat.le_of_ble_eq_true rfl, Nat.le_of_ble_eq_true rfl⟩ ⟨rfl, rfl⟩ ⟨Nat.zero_le _, Nat.zero_le _⟩ rfl (Nat.le_of_ble_eq_true rfl) ?_
      refine r_iconst (v := (1 : Int32)) C dX10_lay_43 rfl ?_
      exact r_ireturn C dX10_lay_44 (rt_e hF)
    · have hF := if_f h11 hF
      refine r_bipush (v := (-10 : Int32)) C dX10_lay_26 rfl ?_
      refine r_iload C 0 dX10_lay_28 rfl ?_
      refine r_isub C dX10_lay_30 ?_
      exact r_ireturn C dX10_lay_31 (rt_e hF)
  · have hF := if_t h12 hF
    refine r_iconst (v := (-1 : Int32)) C dX10_lay_7 rfl ?_
    exact r_ireturn C dX10_lay_8 (rt_e hF)
def F_X7_faultOfDrop (q0 : Nat) (a1 : Int32) (a2 : Int32) (a3 : Int32) (σ : St) : Option (Int32 × St) :=
  (if (σ.1 (26, q0, 0) 1) = (-1 : Int32) then bd (F_X7_faultAt q0 a2 σ) fun r2 σ1 => (if r2 = 0 then bd (F_X7_faultAt q0 ((a2 + ((3 : Int32) * a3)) + (2 : Int32)) σ1) fun r5 σ4 => some (r5, σ4) else some (r2, σ1)) else (if (σ.1 (26, q0, 0) 1) = a1 then bd (F_X7_faultAt q0 a2 σ) fun r9 σ8 => (if r9 = 0 then bd (F_X7_faultAt q0 ((a2 + ((3 : Int32) * a3)) + (2 : Int32)) σ8) fun r12 σ11 => some (r12, σ11) else some (r9, σ8)) else some ((3 : Int32), σ)))
set_option maxRecDepth 20000 in
set_option maxHeartbeats 4000000 in
theorem s_X7_faultOfDrop (G : Gx) (l : Launch) {q0 : Nat} {a1 : Int32} {a2 : Int32} {a3 : Int32} {σ σ' : St} {r : Int32} (hF : F_X7_faultOfDrop q0 a1 a2 a3 σ = some (r, σ')) : Sp G l yX7_faultOfDrop cX7_faultOfDrop 5 (some .int) (lvl 1) [vR (26, q0, 0), vI a1, vI a2, vI a3] σ (va_Qi (fun a b => a = r ∧ b = σ') (Wd G) (AG G)) := by
  refine Sp_of (own := RX7) (by decide) rfl (Nat.le_of_ble_eq_true rfl) ?_
  intro p e s m args below meth c C
  show Rt G p l e (lvl 1) s m args below meth c 0 0 (MQ below (va_Qi (fun a b => a = r ∧ b = σ') (Wd G) (AG G)) args s 0 0 (AG G)) 5 0 [(0, vR (26, q0, 0)), (1, vI a1), (2, vI a2), (3, vI a3)] [] σ
  unfold F_X7_faultOfDrop at hF
  refine r_aload_n C 0 0 dX7_faultOfDrop_0 rfl rfl ?_
  refine r_getI (kf := 1) C dX7_faultOfDrop_1 rfl rfl f_X7 (by decide) t_2_85 rfl ?_
  refine r_iconst (v := (-1 : Int32)) C dX7_faultOfDrop_4 rfl ?_
  refine r_icmp_eq C 18 dX7_faultOfDrop_5 (by decide)  (fun h16 => ?_) (fun h16 => ?_)
  · have hF := if_t h16 hF
    refine r_aload_n C 0 0 dX7_faultOfDrop_18 rfl rfl ?_
    refine r_iload_n C 2 2 dX7_faultOfDrop_19 rfl rfl ?_
    obtain ⟨r2, σ1, e3, hF⟩ := bd_e hF
    refine r_callV_i (as := [vI a2]) (st := []) C dX7_faultOfDrop_20 (s_X7_faultAt G l e3) rfl rfl rfl t_5_13 t_5_6 t_5_7 t_1_13 t_5_8 m_X7_faultAt ⟨Nat.le_of_ble_eq_true rfl, Nat.le_of_ble_eq_true rfl⟩ ⟨rfl, rfl⟩ ⟨Nat.zero_le _, Nat.zero_le _⟩ rfl (Nat.le_of_ble_eq_true rfl) ?_
    refine r_istore (ls2 := [(4, vI r2), (0, vR (26, q0, 0)), (1, vI a1), (2, vI a2), (3, vI a3)]) C dX7_faultOfDrop_23 (by decide) rfl ?_
    refine r_iload C 0 dX7_faultOfDrop_25 rfl ?_
    refine r_if_eq C 35 dX7_faultOfDrop_27 (by decide)  (fun h7 => ?_) (fun h7 => ?_)
    · have hF := if_t h7 hF
      refine r_aload_n C 1 0 dX7_faultOfDrop_35 rfl rfl ?_
      refine r_iload_n C 3 2 dX7_faultOfDrop_36 rfl rfl ?_
      refine r_iconst (v := (3 : Int32)) C dX7_faultOfDrop_37 rfl ?_
      refine r_iload_n C 4 3 dX7_faultOfDrop_38 rfl rfl ?_
      refine r_imul C dX7_faultOfDrop_39 ?_
      refine r_iadd C dX7_faultOfDrop_40 ?_
      refine r_iconst (v := (2 : Int32)) C dX7_faultOfDrop_41 rfl ?_
      refine r_iadd C dX7_faultOfDrop_42 ?_
      obtain ⟨r5, σ4, e6, hF⟩ := bd_e hF
      refine r_callV_i (as := [vI ((a2 + ((3 : Int32) * a3)) + (2 : Int32))]) (st := []) C dX7_faultOfDrop_43 (s_X7_faultAt G l e6) rfl rfl rfl t_5_13 t_5_6 t_5_7 t_1_13 t_5_8 m_X7_faultAt ⟨Nat.le_of_ble_eq_true rfl, Nat.le_of_ble_eq_true rfl⟩ ⟨rfl, rfl⟩ ⟨Nat.zero_le _, Nat.zero_le _⟩ rfl (Nat.le_of_ble_eq_true rfl) ?_
      exact r_ireturn C dX7_faultOfDrop_46 (rt_e hF)
    · have hF := if_f h7 hF
      refine r_iload C 0 dX7_faultOfDrop_30 rfl ?_
      refine r_goto C 46 dX7_faultOfDrop_32 (by decide) ?_
      exact r_ireturn C dX7_faultOfDrop_46 (rt_e hF)
  · have hF := if_f h16 hF
    refine r_aload_n C 0 0 dX7_faultOfDrop_8 rfl rfl ?_
    refine r_getI (kf := 1) C dX7_faultOfDrop_9 rfl rfl f_X7 (by decide) t_2_85 rfl ?_
    refine r_iload_n C 1 1 dX7_faultOfDrop_12 rfl rfl ?_
    refine r_icmp_eq C 18 dX7_faultOfDrop_13 (by decide)  (fun h15 => ?_) (fun h15 => ?_)
    · have hF := if_t h15 hF
      refine r_aload_n C 0 0 dX7_faultOfDrop_18 rfl rfl ?_
      refine r_iload_n C 2 2 dX7_faultOfDrop_19 rfl rfl ?_
      obtain ⟨r9, σ8, e10, hF⟩ := bd_e hF
      refine r_callV_i (as := [vI a2]) (st := []) C dX7_faultOfDrop_20 (s_X7_faultAt G l e10) rfl rfl rfl t_5_13 t_5_6 t_5_7 t_1_13 t_5_8 m_X7_faultAt ⟨Nat.le_of_ble_eq_true rfl, Nat.le_of_ble_eq_true rfl⟩ ⟨rfl, rfl⟩ ⟨Nat.zero_le _, Nat.zero_le _⟩ rfl (Nat.le_of_ble_eq_true rfl) ?_
      refine r_istore (ls2 := [(4, vI r9), (0, vR (26, q0, 0)), (1, vI a1), (2, vI a2), (3, vI a3)]) C dX7_faultOfDrop_23 (by decide) rfl ?_
      refine r_iload C 0 dX7_faultOfDrop_25 rfl ?_
      refine r_if_eq C 35 dX7_faultOfDrop_27 (by decide)  (fun h14 => ?_) (fun h14 => ?_)
      · have hF := if_t h14 hF
        refine r_aload_n C 1 0 dX7_faultOfDrop_35 rfl rfl ?_
        refine r_iload_n C 3 2 dX7_faultOfDrop_36 rfl rfl ?_
        refine r_iconst (v := (3 : Int32)) C dX7_faultOfDrop_37 rfl ?_
        refine r_iload_n C 4 3 dX7_faultOfDrop_38 rfl rfl ?_
        refine r_imul C dX7_faultOfDrop_39 ?_
        refine r_iadd C dX7_faultOfDrop_40 ?_
        refine r_iconst (v := (2 : Int32)) C dX7_faultOfDrop_41 rfl ?_
        refine r_iadd C dX7_faultOfDrop_42 ?_
        obtain ⟨r12, σ11, e13, hF⟩ := bd_e hF
        refine r_callV_i (as := [vI ((a2 + ((3 : Int32) * a3)) + (2 : Int32))]) (st := []) C dX7_faultOfDrop_43 (s_X7_faultAt G l e13) rfl rfl rfl t_5_13 t_5_6 t_5_7 t_1_13 t_5_8 m_X7_faultAt ⟨Nat.le_of_ble_eq_true rfl, Nat.le_of_ble_eq_true rfl⟩ ⟨rfl, rfl⟩ ⟨Nat.zero_le _, Nat.zero_le _⟩ rfl (Nat.le_of_ble_eq_true rfl) ?_
        exact r_ireturn C dX7_faultOfDrop_46 (rt_e hF)
      · have hF := if_f h14 hF
        refine r_iload C 0 dX7_faultOfDrop_30 rfl ?_
        refine r_goto C 46 dX7_faultOfDrop_32 (by decide) ?_
        exact r_ireturn C dX7_faultOfDrop_46 (rt_e hF)
    · have hF := if_f h15 hF
      refine r_iconst (v := (3 : Int32)) C dX7_faultOfDrop_16 rfl ?_
      exact r_ireturn C dX7_faultOfDrop_17 (rt_e hF)
def F_X7_valueAt (q0 : Nat) (a1 : Int32) (σ : St) : Option (Int32 × St) :=
  bd (F_X7_faultAt q0 a1 σ) fun r2 σ1 => (if r2 = 0 then ck (inb a1 40) (some (σ1.1 (27, q0, 0) (a1.toNatClampNeg), σ1)) else some ((0 : Int32), σ1))
set_option maxRecDepth 20000 in
set_option maxHeartbeats 4000000 in
theorem s_X7_valueAt (G : Gx) (l : Launch) {q0 : Nat} {a1 : Int32} {σ σ' : St} {r : Int32} (hF : F_X7_valueAt q0 a1 σ = some (r, σ')) : Sp G l yX7_valueAt cX7_valueAt 2 (some .int) (lvl 1) [vR (26, q0, 0), vI a1] σ (va_Qi (fun a b => a = r ∧ b = σ') (Wd G) (AG G)) := by
  refine Sp_of (own := RX7) (by decide) rfl (Nat.le_of_ble_eq_true rfl) ?_
  intro p e s m args below meth c C
  show Rt G p l e (lvl 1) s m args below meth c 0 0 (MQ below (va_Qi (fun a b => a = r ∧ b = σ') (Wd G) (AG G)) args s 0 0 (AG G)) 2 0 [(0, vR (26, q0, 0)), (1, vI a1)] [] σ
  unfold F_X7_valueAt at hF
  refine r_aload_n C 0 0 dX7_valueAt_0 rfl rfl ?_
  refine r_iload_n C 1 1 dX7_valueAt_1 rfl rfl ?_
  obtain ⟨r2, σ1, e3, hF⟩ := bd_e hF
  refine r_callV_i (as := [vI a1]) (st := []) C dX7_valueAt_2 (s_X7_faultAt G l e3) rfl rfl rfl t_5_13 t_5_6 t_5_7 t_1_13 t_5_8 m_X7_faultAt ⟨Nat.le_of_ble_eq_true rfl, Nat.le_of_ble_eq_true rfl⟩ ⟨rfl, rfl⟩ ⟨Nat.zero_le _, Nat.zero_le _⟩ rfl (Nat.le_of_ble_eq_true rfl) ?_
  refine r_if_ne C 17 dX7_valueAt_5 (by decide)  (fun h5 => ?_) (fun h5 => ?_)
  · have hF := if_f h5 hF
    refine r_iconst (v := (0 : Int32)) C dX7_valueAt_17 rfl ?_
    exact r_ireturn C dX7_valueAt_18 (rt_e hF)
  · have hF := if_t h5 hF
    refine r_aload_n C 0 0 dX7_valueAt_8 rfl rfl ?_
    refine r_getR (kf := 0) (d2 := (27, q0, 0)) C dX7_valueAt_9 rfl rfl f_X7 (by decide) t_2_84 rfl rfl ?_
    refine r_iload_n C 1 1 dX7_valueAt_12 rfl rfl ?_
    obtain ⟨h4, hF⟩ := ck_e hF
    refine r_iaload C (a1.toNatClampNeg) dX7_valueAt_13 rfl h4 rfl ?_
    refine r_goto C 18 dX7_valueAt_14 (by decide) ?_
    exact r_ireturn C dX7_valueAt_18 (rt_e hF)
def L_X10_read_62 (c2 : Int32) (c3 : Int32) (c4 : Int32) (q_5 : Nat) (c6 : Int32) (c7 : Int32) : Nat → Int32 → Int32 → Int32 → St → (Int32 → Int32 → St → Option (Int32 × St)) → (Int32 → Int32 → St → Option (Int32 × St)) → Option (Int32 × St)
  | 0, _, _, _, _, _, _ => none
  | n + 1, v8, v9, v10, τ, kx134, kx179 =>
  (if c4 ≤ v10 then kx179 v8 v9 τ else (if v9 = 0 then bd (F_X7_faultOfDrop q_5 c2 c3 v10 τ) fun r14 σ13 => (if r14 = 0 then nam (c3 + ((3 : Int32) * v10)) fun x17 => bd (F_X7_valueAt q_5 x17 σ13) fun r19 σ18 => bd (F_X7_valueAt q_5 (x17 + (1 : Int32)) σ18) fun r22 σ21 => bd (F_X7_valueAt q_5 (x17 + (2 : Int32)) σ21) fun r25 σ24 => bd (F_X10_setDown r19 r22 r25 σ24) fun r28 σ27 => (if 0 ≤ r28 then nam (v8 + (1 : Int32)) fun x30 => nam (v10 + (1 : Int32)) fun x31 => L_X10_read_62 c2 c3 c4 q_5 c6 c7 n x30 r14 x31 σ27 kx134 kx179 else kx134 v10 r28 σ27) else nam (v10 + (1 : Int32)) fun x16 => L_X10_read_62 c2 c3 c4 q_5 c6 c7 n v8 r14 x16 σ13 kx134 kx179) else kx179 v8 v9 τ))
def F_X10_read (a1 : Int32) (a2 : Int32) (a3 : Int32) (a4 : Int32) (σ : St) : Option (Int32 × St) :=
  bd (F_X10_isSheet a1 σ) fun r2 σ1 => (if r2 = 0 then some ((-1 : Int32), σ1) else bd (F_X10_isLane a2 σ1) fun r5 σ4 => (if r5 = 0 then some ((-1 : Int32), σ4) else bd (F_X10_within a4 (0 : Int32) (12 : Int32) σ4) fun r8 σ7 => (if r8 = 0 then some ((-1 : Int32), σ7) else ck (inb a1 4) (nam (σ7.1 (7, 0, 0) 2) fun x11 => nam (σ7.1 (7, 0, 0) 10) fun x12 => L_X10_read_62 a2 a3 a4 (a1.toNatClampNeg) x11 x12 FU (0 : Int32) (0 : Int32) (0 : Int32) σ7 (fun (y37 : Int32) (y38 : Int32) (σ36 : St) => nam (uI σ36 (7, 0, 0) 2 x11) fun σ39 => nam (uI σ39 (7, 0, 0) 10 x12) fun σ40 => (if y38 = (-3 : Int32) then some ((-3 : Int32), σ40) else some ((-20 : Int32) - y37, σ40))) (fun (y43 : Int32) (y44 : Int32) (σ42 : St) => nam (uI σ42 (0, 0, 0) 11 y44) fun σ45 => some (y43, σ45))))))
set_option maxRecDepth 20000 in
set_option maxHeartbeats 4000000 in
theorem l_X10_read_62 {G : Gx} {p : Program} {l : Launch} {e : Env} {s : State} {m : MethodId} {args : Array Value} {below : List Frame} {meth : Method} {c : Code} (C : Cx G p s m args meth c (some .int) 13 RX10 cX10_read) (c2 : Int32) (c3 : Int32) (c4 : Int32) (q_5 : Nat) (c6 : Int32) (c7 : Int32) {σ' : St} {r : Int32} (kx134 : Int32 → Int32 → St → Option (Int32 × St)) (hkx134 : ∀ (w10 : Int32) (w12 : Int32) (τ : St), kx134 w10 w12 τ = some (r, σ') → Rt G p l e (lvl 4) s m args below meth c 0 0 (MQ below (va_Qi (fun a b => a = r ∧ b = σ') (Wd G) (AG G)) args s 0 0 (AG G)) 13 134 [(0, vR (0, 0, 0)), (6, vI c6), (7, vI c7), (10, vI w10), (12, vI w12)] [] τ) (kx179 : Int32 → Int32 → St → Option (Int32 × St)) (hkx179 : ∀ (w8 : Int32) (w9 : Int32) (τ : St), kx179 w8 w9 τ = some (r, σ') → Rt G p l e (lvl 4) s m args below meth c 0 0 (MQ below (va_Qi (fun a b => a = r ∧ b = σ') (Wd G) (AG G)) args s 0 0 (AG G)) 13 179 [(0, vR (0, 0, 0)), (8, vI w8), (9, vI w9)] [] τ) : ∀ (n : Nat) (v8 : Int32) (v9 : Int32) (v10 : Int32) (τ : St), L_X10_read_62 c2 c3 c4 q_5 c6 c7 n v8 v9 v10 τ kx134 kx179 = some (r, σ') → Rt G p l e (lvl 4) s m args below meth c 0 0 (MQ below (va_Qi (fun a b => a = r ∧ b = σ') (Wd G) (AG G)) args s 0 0 (AG G)) 13 62 [(0, vR (0, 0, 0)), (2, vI c2), (3, vI c3), (4, vI c4), (5, vR (26, q_5, 0)), (6, vI c6), (7, vI c7), (8, vI v8), (9, vI v9), (10, vI v10)] [] τ := by
  intro n
  induction n with
  | zero => intro v8 v9 v10 τ hF; cases hF
  | succ n ih =>
    intro v8 v9 v10 τ hF
    unfold L_X10_read_62 at hF
    refine r_iload C 9 dX10_read_62 rfl ?_
    refine r_iload C 3 dX10_read_64 rfl ?_
    refine r_icmp_ge C 179 dX10_read_66 (by decide)  (fun h35 => ?_) (fun h35 => ?_)
    · have hF := if_t h35 hF
      refine r_drop (ls2 := [(0, vR (0, 0, 0)), (8, vI v8), (9, vI v9)]) [0, 7, 8] rfl ?_
      exact hkx179 _ _ _ hF
    · have hF := if_f h35 hF
      refine r_iload C 8 dX10_read_69 rfl ?_
      refine r_if_ne C 179 dX10_read_71 (by decide)  (fun h34 => ?_) (fun h34 => ?_)
      · have hF := if_f h34 hF
        refine r_drop (ls2 := [(0, vR (0, 0, 0)), (8, vI v8), (9, vI v9)]) [0, 7, 8] rfl ?_
        exact hkx179 _ _ _ hF
      · have hF := if_t h34 hF
        refine r_aload C 4 dX10_read_74 rfl ?_
        refine r_iload_n C 1 2 dX10_read_76 rfl rfl ?_
        refine r_iload_n C 2 3 dX10_read_77 rfl rfl ?_
        refine r_iload C 9 dX10_read_78 rfl ?_
        obtain ⟨r14, σ13, e15, hF⟩ := bd_e hF
        refine r_callV_i (as := [vI c2, vI c3, vI v10]) (st := []) C dX10_read_80 (s_X7_faultOfDrop G l e15) rfl rfl rfl t_5_18 t_5_19 t_5_20 t_1_13 t_5_21 m_X7_faultOfDrop ⟨Nat.le_of_ble_eq_true rfl, Nat.le_of_ble_eq_true rfl⟩ ⟨rfl, rfl⟩ ⟨Nat.zero_le _, Nat.zero_le _⟩ rfl (Nat.le_of_ble_eq_true rfl) ?_
        refine r_istore (ls2 := [(9, vI r14), (0, vR (0, 0, 0)), (2, vI c2), (3, vI c3), (4, vI c4), (5, vR (26, q_5, 0)), (6, vI c6), (7, vI c7), (8, vI v8), (10, vI v10)]) C dX10_read_83 (by decide) rfl ?_
        refine r_iload C 0 dX10_read_85 rfl ?_
        refine r_if_ne C 173 dX10_read_87 (by decide)  (fun h33 => ?_) (fun h33 => ?_)
        · have hF := if_f h33 hF
          obtain ⟨x16, ex16, hF⟩ := nam_e hF
          refine r_iinc (v := x16) (ls2 := [(10, vI x16), (9, vI r14), (0, vR (0, 0, 0)), (2, vI c2), (3, vI c3), (4, vI c4), (5, vR (26, q_5, 0)), (6, vI c6), (7, vI c7), (8, vI v8)]) C 9 dX10_read_173 rfl ex16.symm (by decide) rfl ?_
          refine r_goto C 62 dX10_read_176 (by decide) ?_
          refine r_drop (ls2 := [(0, vR (0, 0, 0)), (2, vI c2), (3, vI c3), (4, vI c4), (5, vR (26, q_5, 0)), (6, vI c6), (7, vI c7), (8, vI v8), (9, vI r14), (10, vI x16)]) [2, 3, 4, 5, 6, 7, 8, 9, 1, 0] rfl ?_
          exact ih _ _ _ _ hF
        · have hF := if_t h33 hF
          refine r_iload_n C 3 3 dX10_read_90 rfl rfl ?_
          refine r_iconst (v := (3 : Int32)) C dX10_read_91 rfl ?_
          refine r_iload C 9 dX10_read_92 rfl ?_
          refine r_imul C dX10_read_94 ?_
          refine r_iadd C dX10_read_95 ?_
          obtain ⟨x17, ex17, hF⟩ := nam_e hF
          refine r_topI ex17 ?_
          refine r_istore (ls2 := [(11, vI x17), (9, vI r14), (0, vR (0, 0, 0)), (2, vI c2), (3, vI c3), (4, vI c4), (5, vR (26, q_5, 0)), (6, vI c6), (7, vI c7), (8, vI v8), (10, vI v10)]) C dX10_read_96 (by decide) rfl ?_
          refine r_aload_n C 2 0 dX10_read_98 rfl rfl ?_
          refine r_aload C 6 dX10_read_99 rfl ?_
          refine r_iload C 0 dX10_read_101 rfl ?_
          obtain ⟨r19, σ18, e20, hF⟩ := bd_e hF
          refine r_callV_i (as := [vI x17]) (st := [vR (0, 0, 0)]) C dX10_read_103 (s_X7_valueAt G l e20) rfl rfl rfl t_5_22 t_5_23 t_5_24 t_1_13 t_5_25 m_X7_valueAt ⟨Nat.le_of_ble_eq_true rfl, Nat.le_of_ble_eq_true rfl⟩ ⟨rfl, rfl⟩ ⟨Nat.zero_le _, Nat.zero_le _⟩ rfl (Nat.le_of_ble_eq_true rfl) ?_
          refine r_aload C 6 dX10_read_106 rfl ?_
          refine r_iload C 0 dX10_read_108 rfl ?_
          refine r_iconst (v := (1 : Int32)) C dX10_read_110 rfl ?_
          refine r_iadd C dX10_read_111 ?_
          obtain ⟨r22, σ21, e23, hF⟩ := bd_e hF
          refine r_callV_i (as := [vI (x17 + (1 : Int32))]) (st := [vI r19, vR (0, 0, 0)]) C dX10_read_112 (s_X7_valueAt G l e23) rfl rfl rfl t_5_22 t_5_23 t_5_24 t_1_13 t_5_25 m_X7_valueAt ⟨Nat.le_of_ble_eq_true rfl, Nat.le_of_ble_eq_true rfl⟩ ⟨rfl, rfl⟩ ⟨Nat.zero_le _, Nat.zero_le _⟩ rfl (Nat.le_of_ble_eq_true rfl) ?_
          refine r_aload C 6 dX10_read_115 rfl ?_
          refine r_iload C 0 dX10_read_117 rfl ?_
          refine r_iconst (v := (2 : Int32)) C dX10_read_119 rfl ?_
          refine r_iadd C dX10_read_120 ?_
          obtain ⟨r25, σ24, e26, hF⟩ := bd_e hF
          refine r_callV_i (as := [vI (x17 + (2 : Int32))]) (st := [vI r22, vI r19, vR (0, 0, 0)]) C dX10_read_121 (s_X7_valueAt G l e26) rfl rfl rfl t_5_22 t_5_23 t_5_24 t_1_13 t_5_25 m_X7_valueAt ⟨Nat.le_of_ble_eq_true rfl, Nat.le_of_ble_eq_true rfl⟩ ⟨rfl, rfl⟩ ⟨Nat.zero_le _, Nat.zero_le _⟩ rfl (Nat.le_of_ble_eq_true rfl) ?_
          obtain ⟨r28, σ27, e29, hF⟩ := bd_e hF
          refine r_callV_i (as := [vI r19, vI r22, vI r25]) (st := []) C dX10_read_124 (s_X10_setDown G l e29) rfl rfl rfl t_3_148 t_3_150 t_s_10 t_1_1 t_3_151 m_X10_setDown ⟨Nat.le_of_ble_eq_true rfl, Nat.le_of_ble_eq_true rfl⟩ ⟨rfl, rfl⟩ ⟨Nat.zero_le _, Nat.zero_le _⟩ rfl (Nat.le_of_ble_eq_true rfl) ?_
          refine r_istore (ls2 := [(12, vI r28), (11, vI x17), (9, vI r14), (0, vR (0, 0, 0)), (2, vI c2), (3, vI c3), (4, vI c4), (5, vR (26, q_5, 0)), (6, vI c6), (7, vI c7), (8, vI v8), (10, vI v10)]) C dX10_read_127 (by decide) rfl ?_
          refine r_iload C 0 dX10_read_129 rfl ?_
          refine r_if_ge C 170 dX10_read_131 (by decide)  (fun h32 => ?_) (fun h32 => ?_)
          · have hF := if_t h32 hF
            obtain ⟨x30, ex30, hF⟩ := nam_e hF
            refine r_iinc (v := x30) (ls2 := [(8, vI x30), (12, vI r28), (11, vI x17), (9, vI r14), (0, vR (0, 0, 0)), (2, vI c2), (3, vI c3), (4, vI c4), (5, vR (26, q_5, 0)), (6, vI c6), (7, vI c7), (10, vI v10)]) C 10 dX10_read_170 rfl ex30.symm (by decide) rfl ?_
            obtain ⟨x31, ex31, hF⟩ := nam_e hF
            refine r_iinc (v := x31) (ls2 := [(10, vI x31), (8, vI x30), (12, vI r28), (11, vI x17), (9, vI r14), (0, vR (0, 0, 0)), (2, vI c2), (3, vI c3), (4, vI c4), (5, vR (26, q_5, 0)), (6, vI c6), (7, vI c7)]) C 11 dX10_read_173 rfl ex31.symm (by decide) rfl ?_
            refine r_goto C 62 dX10_read_176 (by decide) ?_
            refine r_drop (ls2 := [(0, vR (0, 0, 0)), (2, vI c2), (3, vI c3), (4, vI c4), (5, vR (26, q_5, 0)), (6, vI c6), (7, vI c7), (8, vI x30), (9, vI r14), (10, vI x31)]) [5, 6, 7, 8, 9, 10, 11, 1, 4, 0] rfl ?_
            exact ih _ _ _ _ hF
          · have hF := if_f h32 hF
            refine r_drop (ls2 := [(0, vR (0, 0, 0)), (6, vI c6), (7, vI c7), (10, vI v10), (12, vI r28)]) [3, 8, 9, 11, 0] rfl ?_
            exact hkx134 _ _ _ hF
set_option maxRecDepth 20000 in
set_option maxHeartbeats 4000000 in
theorem s_X10_read (G : Gx) (l : Launch) {a1 : Int32} {a2 : Int32} {a3 : Int32} {a4 : Int32} {σ σ' : St} {r : Int32} (hF : F_X10_read a1 a2 a3 a4 σ = some (r, σ')) : Sp G l yX10_read cX10_read 13 (some .int) (lvl 4) [vR (0, 0, 0), vI a1, vI a2, vI a3, vI a4] σ (va_Qi (fun a b => a = r ∧ b = σ') (Wd G) (AG G)) := by
  refine Sp_of (own := RX10) (by decide) rfl (Nat.le_of_ble_eq_true rfl) ?_
  intro p e s m args below meth c C
  show Rt G p l e (lvl 4) s m args below meth c 0 0 (MQ below (va_Qi (fun a b => a = r ∧ b = σ') (Wd G) (AG G)) args s 0 0 (AG G)) 13 0 [(0, vR (0, 0, 0)), (1, vI a1), (2, vI a2), (3, vI a3), (4, vI a4)] [] σ
  unfold F_X10_read at hF
  refine r_iload_n C 1 1 dX10_read_0 rfl rfl ?_
  obtain ⟨r2, σ1, e3, hF⟩ := bd_e hF
  refine r_callS_i (as := [vI a1]) (st := []) C dX10_read_1 (s_X10_isSheet G l e3) t_4_230 t_4_231 t_1_1 t_4_232 m_X10_isSheet ⟨Nat.le_of_ble_eq_true rfl, Nat.le_of_ble_eq_true rfl⟩ ⟨rfl, rfl⟩ ⟨Nat.zero_le _, Nat.zero_le _⟩ rfl (Nat.le_of_ble_eq_true rfl) ?_
  refine r_if_eq C 25 dX10_read_4 (by decide)  (fun h48 => ?_) (fun h48 => ?_)
  · have hF := if_t h48 hF
    refine r_iconst (v := (-1 : Int32)) C dX10_read_25 rfl ?_
    exact r_ireturn C dX10_read_26 (rt_e hF)
  · have hF := if_f h48 hF
    refine r_iload_n C 2 2 dX10_read_7 rfl rfl ?_
    obtain ⟨r5, σ4, e6, hF⟩ := bd_e hF
    refine r_callS_i (as := [vI a2]) (st := []) C dX10_read_8 (s_X10_isLane G l e6) t_4_233 t_4_234 t_1_1 t_4_235 m_X10_isLane ⟨Nat.le_of_ble_eq_true rfl, Nat.le_of_ble_eq_true rfl⟩ ⟨rfl, rfl⟩ ⟨Nat.zero_le _, Nat.zero_le _⟩ rfl (Nat.le_of_ble_eq_true rfl) ?_
    refine r_if_eq C 25 dX10_read_11 (by decide)  (fun h47 => ?_) (fun h47 => ?_)
    · have hF := if_t h47 hF
      refine r_iconst (v := (-1 : Int32)) C dX10_read_25 rfl ?_
      exact r_ireturn C dX10_read_26 (rt_e hF)
    · have hF := if_f h47 hF
      refine r_iload C 4 dX10_read_14 rfl ?_
      refine r_iconst (v := (0 : Int32)) C dX10_read_16 rfl ?_
      refine r_bipush (v := (12 : Int32)) C dX10_read_17 rfl ?_
      obtain ⟨r8, σ7, e9, hF⟩ := bd_e hF
      refine r_callS_i (as := [vI a4, vI (0 : Int32), vI (12 : Int32)]) (st := []) C dX10_read_19 (s_X10_within G l e9) t_2_141 t_2_142 t_1_1 t_2_143 m_X10_within ⟨Nat.le_of_ble_eq_true rfl, Nat.le_of_ble_eq_true rfl⟩ ⟨rfl, rfl⟩ ⟨Nat.zero_le _, Nat.zero_le _⟩ rfl (Nat.le_of_ble_eq_true rfl) ?_
      refine r_if_ne C 27 dX10_read_22 (by decide)  (fun h46 => ?_) (fun h46 => ?_)
      · have hF := if_f h46 hF
        refine r_aload_n C 0 0 dX10_read_27 rfl rfl ?_
        refine r_getR (kf := 10) (d2 := (25, 0, 0)) C dX10_read_28 rfl rfl f_X10 (by decide) t_2_106 rfl rfl ?_
        refine r_iload_n C 1 1 dX10_read_31 rfl rfl ?_
        obtain ⟨h10, hF⟩ := ck_e hF
        refine r_aaload (cA := 0) (d2 := (26, (a1.toNatClampNeg), 0)) C dX10_read_32 rfl rfl h10 rfl ?_
        refine r_astore (ls2 := [(5, vR (26, (a1.toNatClampNeg), 0)), (0, vR (0, 0, 0)), (1, vI a1), (2, vI a2), (3, vI a3), (4, vI a4)]) C dX10_read_33 (by decide) rfl ?_
        refine r_aload_n C 1 0 dX10_read_35 rfl rfl ?_
        refine r_getR (kf := 4) (d2 := (7, 0, 0)) C dX10_read_36 rfl rfl f_X10 (by decide) t_2_100 rfl rfl ?_
        refine r_getI (kf := 2) C dX10_read_39 rfl rfl f_X6 (by decide) t_1_160 rfl ?_
        obtain ⟨x11, ex11, hF⟩ := nam_e hF
        refine r_topI ex11 ?_
        refine r_istore (ls2 := [(6, vI x11), (5, vR (26, (a1.toNatClampNeg), 0)), (0, vR (0, 0, 0)), (1, vI a1), (2, vI a2), (3, vI a3), (4, vI a4)]) C dX10_read_42 (by decide) rfl ?_
        refine r_aload_n C 2 0 dX10_read_44 rfl rfl ?_
        refine r_getR (kf := 4) (d2 := (7, 0, 0)) C dX10_read_45 rfl rfl f_X10 (by decide) t_2_100 rfl rfl ?_
        refine r_getI (kf := 10) C dX10_read_48 rfl rfl f_X6 (by decide) t_1_176 rfl ?_
        obtain ⟨x12, ex12, hF⟩ := nam_e hF
        refine r_topI ex12 ?_
        refine r_istore (ls2 := [(7, vI x12), (6, vI x11), (5, vR (26, (a1.toNatClampNeg), 0)), (0, vR (0, 0, 0)), (1, vI a1), (2, vI a2), (3, vI a3), (4, vI a4)]) C dX10_read_51 (by decide) rfl ?_
        refine r_iconst (v := (0 : Int32)) C dX10_read_53 rfl ?_
        refine r_istore (ls2 := [(8, vI (0 : Int32)), (7, vI x12), (6, vI x11), (5, vR (26, (a1.toNatClampNeg), 0)), (0, vR (0, 0, 0)), (1, vI a1), (2, vI a2), (3, vI a3), (4, vI a4)]) C dX10_read_54 (by decide) rfl ?_
        refine r_iconst (v := (0 : Int32)) C dX10_read_56 rfl ?_
        refine r_istore (ls2 := [(9, vI (0 : Int32)), (8, vI (0 : Int32)), (7, vI x12), (6, vI x11), (5, vR (26, (a1.toNatClampNeg), 0)), (0, vR (0, 0, 0)), (1, vI a1), (2, vI a2), (3, vI a3), (4, vI a4)]) C dX10_read_57 (by decide) rfl ?_
        refine r_iconst (v := (0 : Int32)) C dX10_read_59 rfl ?_
        refine r_istore (ls2 := [(10, vI (0 : Int32)), (9, vI (0 : Int32)), (8, vI (0 : Int32)), (7, vI x12), (6, vI x11), (5, vR (26, (a1.toNatClampNeg), 0)), (0, vR (0, 0, 0)), (1, vI a1), (2, vI a2), (3, vI a3), (4, vI a4)]) C dX10_read_60 (by decide) rfl ?_
        refine r_drop (ls2 := [(0, vR (0, 0, 0)), (2, vI a2), (3, vI a3), (4, vI a4), (5, vR (26, (a1.toNatClampNeg), 0)), (6, vI x11), (7, vI x12), (8, vI (0 : Int32)), (9, vI (0 : Int32)), (10, vI (0 : Int32))]) [6, 8, 9, 10, 5, 4, 3, 2, 1, 0] rfl ?_
        refine l_X10_read_62 C a2 a3 a4 (a1.toNatClampNeg) x11 x12 _ ?_ _ ?_ _ _ _ _ _ hF
        · intro y37 y38 σ36 hF
          refine r_aload_n C 0 0 dX10_read_134 rfl rfl ?_
          refine r_getR (kf := 4) (d2 := (7, 0, 0)) C dX10_read_135 rfl rfl f_X10 (by decide) t_2_100 rfl rfl ?_
          refine r_iload C 1 dX10_read_138 rfl ?_
          obtain ⟨σ39, eσ39, hF⟩ := nam_e hF
          refine r_put (kf := 2) (ty0 := tyX6) C dX10_read_140 rfl rfl f_X6 tyX6_ok nmX6 (by decide) t_1_160 rfl rfl rfl rfl eσ39 ?_
          refine r_aload_n C 0 0 dX10_read_143 rfl rfl ?_
          refine r_getR (kf := 4) (d2 := (7, 0, 0)) C dX10_read_144 rfl rfl f_X10 (by decide) t_2_100 rfl rfl ?_
          refine r_iload C 2 dX10_read_147 rfl ?_
          obtain ⟨σ40, eσ40, hF⟩ := nam_e hF
          refine r_put (kf := 10) (ty0 := tyX6) C dX10_read_149 rfl rfl f_X6 tyX6_ok nmX6 (by decide) t_1_176 rfl rfl rfl rfl eσ40 ?_
          refine r_iload C 4 dX10_read_152 rfl ?_
          refine r_bipush (v := (-3 : Int32)) C dX10_read_154 rfl ?_
          refine r_icmp_ne C 164 dX10_read_156 (by decide)  (fun h41 => ?_) (fun h41 => ?_)
          · have hF := if_f h41 hF
            refine r_bipush (v := (-20 : Int32)) C dX10_read_164 rfl ?_
            refine r_iload C 3 dX10_read_166 rfl ?_
            refine r_isub C dX10_read_168 ?_
            exact r_ireturn C dX10_read_169 (rt_e hF)
          · have hF := if_t h41 hF
            refine r_bipush (v := (-3 : Int32)) C dX10_read_159 rfl ?_
            refine r_goto C 169 dX10_read_161 (by decide) ?_
            exact r_ireturn C dX10_read_169 (rt_e hF)
        · intro y43 y44 σ42 hF
          refine r_aload_n C 0 0 dX10_read_179 rfl rfl ?_
          refine r_iload C 2 dX10_read_180 rfl ?_
          obtain ⟨σ45, eσ45, hF⟩ := nam_e hF
          refine r_put (kf := 11) (ty0 := tyX10) C dX10_read_182 rfl rfl f_X10 tyX10_ok nmX10 (by decide) t_2_107 rfl rfl rfl rfl eσ45 ?_
          refine r_iload C 1 dX10_read_185 rfl ?_
          exact r_ireturn C dX10_read_187 (rt_e hF)
      · have hF := if_t h46 hF
        refine r_iconst (v := (-1 : Int32)) C dX10_read_25 rfl ?_
        exact r_ireturn C dX10_read_26 (rt_e hF)
def F_X10_torn  (σ : St) : Option (Int32 × St) :=
  some (σ.1 (0, 0, 0) 11, σ)
set_option maxRecDepth 20000 in
set_option maxHeartbeats 4000000 in
theorem s_X10_torn (G : Gx) (l : Launch)  {σ σ' : St} {r : Int32} (hF : F_X10_torn  σ = some (r, σ')) : Sp G l yX10_torn cX10_torn 1 (some .int) (lvl 0) [vR (0, 0, 0)] σ (va_Qi (fun a b => a = r ∧ b = σ') (Wd G) (AG G)) := by
  refine Sp_of (own := RX10) (by decide) rfl (Nat.le_of_ble_eq_true rfl) ?_
  intro p e s m args below meth c C
  show Rt G p l e (lvl 0) s m args below meth c 0 0 (MQ below (va_Qi (fun a b => a = r ∧ b = σ') (Wd G) (AG G)) args s 0 0 (AG G)) 1 0 [(0, vR (0, 0, 0))] [] σ
  unfold F_X10_torn at hF
  refine r_aload_n C 0 0 dX10_torn_0 rfl rfl ?_
  refine r_getI (kf := 11) C dX10_torn_1 rfl rfl f_X10 (by decide) t_2_107 rfl ?_
  exact r_ireturn C dX10_torn_4 (rt_e hF)
def L_X10_howManyImages_4  : Nat → Int32 → Int32 → St → Option (Int32 × St)
  | 0, _, _, _ => none
  | n + 1, v1, v2, τ =>
  (if (2 : Int32) ≤ v2 then some (v1, τ) else ck (inb v2 2) (nam (fun (y2 : Int32) (σ4 : St) => nam (v1 + y2) fun x5 => nam (v2 + (1 : Int32)) fun x6 => L_X10_howManyImages_4 n x5 x6 σ4) fun k3 => (if (τ.1 (12, (v2.toNatClampNeg), 0) 1) = 0 then k3 (0 : Int32) τ else k3 (1 : Int32) τ)))
def F_X10_howManyImages  (σ : St) : Option (Int32 × St) :=
  L_X10_howManyImages_4  FU (0 : Int32) (0 : Int32) σ 
set_option maxRecDepth 20000 in
set_option maxHeartbeats 4000000 in
theorem l_X10_howManyImages_4 {G : Gx} {p : Program} {l : Launch} {e : Env} {s : State} {m : MethodId} {args : Array Value} {below : List Frame} {meth : Method} {c : Code} (C : Cx G p s m args meth c (some .int) 3 RX10 cX10_howManyImages)  {σ' : St} {r : Int32} : ∀ (n : Nat) (v1 : Int32) (v2 : Int32) (τ : St), L_X10_howManyImages_4  n v1 v2 τ = some (r, σ') → Rt G p l e (lvl 0) s m args below meth c 0 0 (MQ below (va_Qi (fun a b => a = r ∧ b = σ') (Wd G) (AG G)) args s 0 0 (AG G)) 3 4 [(0, vR (0, 0, 0)), (1, vI v1), (2, vI v2)] [] τ := by
  intro n
  induction n with
  | zero => intro v1 v2 τ hF; cases hF
  | succ n ih =>
    intro v1 v2 τ hF
    unfold L_X10_howManyImages_4 at hF
    refine r_iload_n C 2 2 dX10_howManyImages_4 rfl rfl ?_
    refine r_iconst (v := (2 : Int32)) C dX10_howManyImages_5 rfl ?_
    refine r_icmp_ge C 35 dX10_howManyImages_6 (by decide)  (fun h8 => ?_) (fun h8 => ?_)
    · have hF := if_t h8 hF
      refine r_iload_n C 1 1 dX10_howManyImages_35 rfl rfl ?_
      exact r_ireturn C dX10_howManyImages_36 (rt_e hF)
    · have hF := if_f h8 hF
      refine r_iload_n C 1 1 dX10_howManyImages_9 rfl rfl ?_
      refine r_aload_n C 0 0 dX10_howManyImages_10 rfl rfl ?_
      refine r_getR (kf := 5) (d2 := (11, 0, 0)) C dX10_howManyImages_11 rfl rfl f_X10 (by decide) t_2_101 rfl rfl ?_
      refine r_iload_n C 2 2 dX10_howManyImages_14 rfl rfl ?_
      obtain ⟨h1, hF⟩ := ck_e hF
      refine r_aaload (cA := 0) (d2 := (12, (v2.toNatClampNeg), 0)) C dX10_howManyImages_15 rfl rfl h1 rfl ?_
      refine r_getI (kf := 1) C dX10_howManyImages_16 rfl rfl f_X1 (by decide) t_2_73 rfl ?_
      obtain ⟨k3, ek3, hF⟩ := nam_e hF
      have hk3 : ∀ (y2 : Int32) (σ4 : St), k3 y2 σ4 = some (r, σ') → Rt G p l e (lvl 0) s m args below meth c 0 0 (MQ below (va_Qi (fun a b => a = r ∧ b = σ') (Wd G) (AG G)) args s 0 0 (AG G)) 3 27 [(0, vR (0, 0, 0)), (2, vI v2)] [vI y2, vI v1] σ4 := by
        intro y2 σ4 hF
        subst ek3
        refine r_iadd C dX10_howManyImages_27 ?_
        obtain ⟨x5, ex5, hF⟩ := nam_e hF
        refine r_topI ex5 ?_
        refine r_istore_n (ls2 := [(1, vI x5), (0, vR (0, 0, 0)), (2, vI v2)]) C dX10_howManyImages_28 1 rfl (by decide) rfl ?_
        obtain ⟨x6, ex6, hF⟩ := nam_e hF
        refine r_iinc (v := x6) (ls2 := [(2, vI x6), (1, vI x5), (0, vR (0, 0, 0))]) C 2 dX10_howManyImages_29 rfl ex6.symm (by decide) rfl ?_
        refine r_goto C 4 dX10_howManyImages_32 (by decide) ?_
        refine r_drop (ls2 := [(0, vR (0, 0, 0)), (1, vI x5), (2, vI x6)]) [2, 1, 0] rfl ?_
        exact ih _ _ _ hF
      refine r_if_eq C 26 dX10_howManyImages_19 (by decide)  (fun h7 => ?_) (fun h7 => ?_)
      · have hF := if_t h7 hF
        refine r_iconst (v := (0 : Int32)) C dX10_howManyImages_26 rfl ?_
        refine r_drop (ls2 := [(0, vR (0, 0, 0)), (2, vI v2)]) [0, 2] rfl ?_
        exact hk3 _ _ hF
      · have hF := if_f h7 hF
        refine r_iconst (v := (1 : Int32)) C dX10_howManyImages_22 rfl ?_
        refine r_goto C 27 dX10_howManyImages_23 (by decide) ?_
        refine r_drop (ls2 := [(0, vR (0, 0, 0)), (2, vI v2)]) [0, 2] rfl ?_
        exact hk3 _ _ hF
set_option maxRecDepth 20000 in
set_option maxHeartbeats 4000000 in
theorem s_X10_howManyImages (G : Gx) (l : Launch)  {σ σ' : St} {r : Int32} (hF : F_X10_howManyImages  σ = some (r, σ')) : Sp G l yX10_howManyImages cX10_howManyImages 3 (some .int) (lvl 0) [vR (0, 0, 0)] σ (va_Qi (fun a b => a = r ∧ b = σ') (Wd G) (AG G)) := by
  refine Sp_of (own := RX10) (by decide) rfl (Nat.le_of_ble_eq_true rfl) ?_
  intro p e s m args below meth c C
  show Rt G p l e (lvl 0) s m args below meth c 0 0 (MQ below (va_Qi (fun a b => a = r ∧ b = σ') (Wd G) (AG G)) args s 0 0 (AG G)) 3 0 [(0, vR (0, 0, 0))] [] σ
  unfold F_X10_howManyImages at hF
  refine r_iconst (v := (0 : Int32)) C dX10_howManyImages_0 rfl ?_
  refine r_istore_n (ls2 := [(1, vI (0 : Int32)), (0, vR (0, 0, 0))]) C dX10_howManyImages_1 1 rfl (by decide) rfl ?_
  refine r_iconst (v := (0 : Int32)) C dX10_howManyImages_2 rfl ?_
  refine r_istore_n (ls2 := [(2, vI (0 : Int32)), (1, vI (0 : Int32)), (0, vR (0, 0, 0))]) C dX10_howManyImages_3 2 rfl (by decide) rfl ?_
  refine r_drop (ls2 := [(0, vR (0, 0, 0)), (1, vI (0 : Int32)), (2, vI (0 : Int32))]) [2, 1, 0] rfl ?_
  refine l_X10_howManyImages_4 C   _ _ _ _ hF
def L_X6_howManyHoles_4 (q0 : Nat) : Nat → Int32 → Int32 → St → Option (Int32 × St)
  | 0, _, _, _ => none
  | n + 1, v1, v2, τ =>
  (if (96 : Int32) ≤ v2 then some (v1, τ) else ck (inb v2 96) (nam (fun (y2 : Int32) (σ4 : St) => nam (v1 + y2) fun x5 => nam (v2 + (1 : Int32)) fun x6 => L_X6_howManyHoles_4 q0 n x5 x6 σ4) fun k3 => (if (τ.1 (8, q0, 0) (v2.toNatClampNeg)) = (6 : Int32) then k3 (1 : Int32) τ else k3 (0 : Int32) τ)))
def F_X6_howManyHoles (q0 : Nat) (σ : St) : Option (Int32 × St) :=
  L_X6_howManyHoles_4 q0 FU (0 : Int32) (0 : Int32) σ 
set_option maxRecDepth 20000 in
set_option maxHeartbeats 4000000 in
theorem l_X6_howManyHoles_4 {G : Gx} {p : Program} {l : Launch} {e : Env} {s : State} {m : MethodId} {args : Array Value} {below : List Frame} {meth : Method} {c : Code} (C : Cx G p s m args meth c (some .int) 3 RX6 cX6_howManyHoles) (q0 : Nat) {σ' : St} {r : Int32} : ∀ (n : Nat) (v1 : Int32) (v2 : Int32) (τ : St), L_X6_howManyHoles_4 q0 n v1 v2 τ = some (r, σ') → Rt G p l e (lvl 0) s m args below meth c 0 0 (MQ below (va_Qi (fun a b => a = r ∧ b = σ') (Wd G) (AG G)) args s 0 0 (AG G)) 3 4 [(0, vR (7, q0, 0)), (1, vI v1), (2, vI v2)] [] τ := by
  intro n
  induction n with
  | zero => intro v1 v2 τ hF; cases hF
  | succ n ih =>
    intro v1 v2 τ hF
    unfold L_X6_howManyHoles_4 at hF
    refine r_iload_n C 2 2 dX6_howManyHoles_4 rfl rfl ?_
    refine r_bipush (v := (96 : Int32)) C dX6_howManyHoles_5 rfl ?_
    refine r_icmp_ge C 35 dX6_howManyHoles_7 (by decide)  (fun h8 => ?_) (fun h8 => ?_)
    · have hF := if_t h8 hF
      refine r_iload_n C 1 1 dX6_howManyHoles_35 rfl rfl ?_
      exact r_ireturn C dX6_howManyHoles_36 (rt_e hF)
    · have hF := if_f h8 hF
      refine r_iload_n C 1 1 dX6_howManyHoles_10 rfl rfl ?_
      refine r_aload_n C 0 0 dX6_howManyHoles_11 rfl rfl ?_
      refine r_getR (kf := 0) (d2 := (8, q0, 0)) C dX6_howManyHoles_12 rfl rfl f_X6 (by decide) t_1_153 rfl rfl ?_
      refine r_iload_n C 2 2 dX6_howManyHoles_15 rfl rfl ?_
      obtain ⟨h1, hF⟩ := ck_e hF
      refine r_iaload C (v2.toNatClampNeg) dX6_howManyHoles_16 rfl h1 rfl ?_
      refine r_bipush (v := (6 : Int32)) C dX6_howManyHoles_17 rfl ?_
      obtain ⟨k3, ek3, hF⟩ := nam_e hF
      have hk3 : ∀ (y2 : Int32) (σ4 : St), k3 y2 σ4 = some (r, σ') → Rt G p l e (lvl 0) s m args below meth c 0 0 (MQ below (va_Qi (fun a b => a = r ∧ b = σ') (Wd G) (AG G)) args s 0 0 (AG G)) 3 27 [(0, vR (7, q0, 0)), (2, vI v2)] [vI y2, vI v1] σ4 := by
        intro y2 σ4 hF
        subst ek3
        refine r_iadd C dX6_howManyHoles_27 ?_
        obtain ⟨x5, ex5, hF⟩ := nam_e hF
        refine r_topI ex5 ?_
        refine r_istore_n (ls2 := [(1, vI x5), (0, vR (7, q0, 0)), (2, vI v2)]) C dX6_howManyHoles_28 1 rfl (by decide) rfl ?_
        obtain ⟨x6, ex6, hF⟩ := nam_e hF
        refine r_iinc (v := x6) (ls2 := [(2, vI x6), (1, vI x5), (0, vR (7, q0, 0))]) C 2 dX6_howManyHoles_29 rfl ex6.symm (by decide) rfl ?_
        refine r_goto C 4 dX6_howManyHoles_32 (by decide) ?_
        refine r_drop (ls2 := [(0, vR (7, q0, 0)), (1, vI x5), (2, vI x6)]) [2, 1, 0] rfl ?_
        exact ih _ _ _ hF
      refine r_icmp_ne C 26 dX6_howManyHoles_19 (by decide)  (fun h7 => ?_) (fun h7 => ?_)
      · have hF := if_f h7 hF
        refine r_iconst (v := (0 : Int32)) C dX6_howManyHoles_26 rfl ?_
        refine r_drop (ls2 := [(0, vR (7, q0, 0)), (2, vI v2)]) [0, 2] rfl ?_
        exact hk3 _ _ hF
      · have hF := if_t h7 hF
        refine r_iconst (v := (1 : Int32)) C dX6_howManyHoles_22 rfl ?_
        refine r_goto C 27 dX6_howManyHoles_23 (by decide) ?_
        refine r_drop (ls2 := [(0, vR (7, q0, 0)), (2, vI v2)]) [0, 2] rfl ?_
        exact hk3 _ _ hF
set_option maxRecDepth 20000 in
set_option maxHeartbeats 4000000 in
theorem s_X6_howManyHoles (G : Gx) (l : Launch) {q0 : Nat} {σ σ' : St} {r : Int32} (hF : F_X6_howManyHoles q0 σ = some (r, σ')) : Sp G l yX6_howManyHoles cX6_howManyHoles 3 (some .int) (lvl 0) [vR (7, q0, 0)] σ (va_Qi (fun a b => a = r ∧ b = σ') (Wd G) (AG G)) := by
  refine Sp_of (own := RX6) (by decide) rfl (Nat.le_of_ble_eq_true rfl) ?_
  intro p e s m args below meth c C
  show Rt G p l e (lvl 0) s m args below meth c 0 0 (MQ below (va_Qi (fun a b => a = r ∧ b = σ') (Wd G) (AG G)) args s 0 0 (AG G)) 3 0 [(0, vR (7, q0, 0))] [] σ
  unfold F_X6_howManyHoles at hF
  refine r_iconst (v := (0 : Int32)) C dX6_howManyHoles_0 rfl ?_
  refine r_istore_n (ls2 := [(1, vI (0 : Int32)), (0, vR (7, q0, 0))]) C dX6_howManyHoles_1 1 rfl (by decide) rfl ?_
  refine r_iconst (v := (0 : Int32)) C dX6_howManyHoles_2 rfl ?_
  refine r_istore_n (ls2 := [(2, vI (0 : Int32)), (1, vI (0 : Int32)), (0, vR (7, q0, 0))]) C dX6_howManyHoles_3 2 rfl (by decide) rfl ?_
  refine r_drop (ls2 := [(0, vR (7, q0, 0)), (1, vI (0 : Int32)), (2, vI (0 : Int32))]) [2, 1, 0] rfl ?_
  refine l_X6_howManyHoles_4 C q0  _ _ _ _ hF
def F_X10_count (a1 : Int32) (σ : St) : Option (Int32 × St) :=
  (if a1 = (0 : Int32) then some (σ.1 (7, 0, 0) 2, σ) else (if a1 = (1 : Int32) then bd (F_X6_howManyThere 0 σ) fun r4 σ3 => some (r4, σ3) else (if a1 = (2 : Int32) then some (σ.1 (20, 0, 0) 4, σ) else (if a1 = (3 : Int32) then bd (F_X10_howManyImages  σ) fun r9 σ8 => some (r9, σ8) else (if a1 = (4 : Int32) then bd (F_X6_howManyHoles 0 σ) fun r13 σ12 => some (r13, σ12) else (if a1 = (5 : Int32) then some (σ.1 (0, 0, 0) 1, σ) else (if a1 = (6 : Int32) then ck (inb (0 : Int32) 4) ((if (σ.1 (26, 0, 0) 1) = (-1 : Int32) then some ((-4 : Int32), σ) else ck (inb (0 : Int32) 4) (some (σ.1 (26, 0, 0) 2, σ)))) else some ((-1 : Int32), σ))))))))
set_option maxRecDepth 20000 in
set_option maxHeartbeats 4000000 in
theorem s_X10_count (G : Gx) (l : Launch) {a1 : Int32} {σ σ' : St} {r : Int32} (hF : F_X10_count a1 σ = some (r, σ')) : Sp G l yX10_count cX10_count 2 (some .int) (lvl 1) [vR (0, 0, 0), vI a1] σ (va_Qi (fun a b => a = r ∧ b = σ') (Wd G) (AG G)) := by
  refine Sp_of (own := RX10) (by decide) rfl (Nat.le_of_ble_eq_true rfl) ?_
  intro p e s m args below meth c C
  show Rt G p l e (lvl 1) s m args below meth c 0 0 (MQ below (va_Qi (fun a b => a = r ∧ b = σ') (Wd G) (AG G)) args s 0 0 (AG G)) 2 0 [(0, vR (0, 0, 0)), (1, vI a1)] [] σ
  unfold F_X10_count at hF
  refine r_iload_n C 1 1 dX10_count_0 rfl rfl ?_
  by_cases h1 : a1 = (0 : Int32)
  · have hF := if_t h1 hF
    refine r_tabIn (off := 43) C 44 dX10_count_1 (by rw [h1]; decide) (by rw [h1]; decide) (by rw [h1]; rfl) (by decide) ?_
    refine r_aload_n C 0 0 dX10_count_44 rfl rfl ?_
    refine r_getR (kf := 4) (d2 := (7, 0, 0)) C dX10_count_45 rfl rfl f_X10 (by decide) t_2_100 rfl rfl ?_
    refine r_getI (kf := 2) C dX10_count_48 rfl rfl f_X6 (by decide) t_1_160 rfl ?_
    exact r_ireturn C dX10_count_51 (rt_e hF)
  have hF := if_f h1 hF
  by_cases h2 : a1 = (1 : Int32)
  · have hF := if_t h2 hF
    refine r_tabIn (off := 51) C 52 dX10_count_1 (by rw [h2]; decide) (by rw [h2]; decide) (by rw [h2]; rfl) (by decide) ?_
    refine r_aload_n C 0 0 dX10_count_52 rfl rfl ?_
    refine r_getR (kf := 4) (d2 := (7, 0, 0)) C dX10_count_53 rfl rfl f_X10 (by decide) t_2_100 rfl rfl ?_
    obtain ⟨r4, σ3, e5, hF⟩ := bd_e hF
    refine r_callV_i (as := []) (st := []) C dX10_count_56 (s_X6_howManyThere G l e5) rfl rfl rfl t_3_239 t_4_0 t_4_1 t_1_5 t_4_2 m_X6_howManyThere ⟨Nat.le_of_ble_eq_true rfl, Nat.le_of_ble_eq_true rfl⟩ ⟨rfl, rfl⟩ ⟨Nat.zero_le _, Nat.zero_le _⟩ rfl (Nat.le_of_ble_eq_true rfl) ?_
    exact r_ireturn C dX10_count_59 (rt_e hF)
  have hF := if_f h2 hF
  by_cases h6 : a1 = (2 : Int32)
  · have hF := if_t h6 hF
    refine r_tabIn (off := 59) C 60 dX10_count_1 (by rw [h6]; decide) (by rw [h6]; decide) (by rw [h6]; rfl) (by decide) ?_
    refine r_aload_n C 0 0 dX10_count_60 rfl rfl ?_
    refine r_getR (kf := 9) (d2 := (20, 0, 0)) C dX10_count_61 rfl rfl f_X10 (by decide) t_2_105 rfl rfl ?_
    refine r_getI (kf := 4) C dX10_count_64 rfl rfl f_X9 (by decide) t_2_49 rfl ?_
    exact r_ireturn C dX10_count_67 (rt_e hF)
  have hF := if_f h6 hF
  by_cases h7 : a1 = (3 : Int32)
  · have hF := if_t h7 hF
    refine r_tabIn (off := 67) C 68 dX10_count_1 (by rw [h7]; decide) (by rw [h7]; decide) (by rw [h7]; rfl) (by decide) ?_
    refine r_aload_n C 0 0 dX10_count_68 rfl rfl ?_
    obtain ⟨r9, σ8, e10, hF⟩ := bd_e hF
    refine r_callV_i (as := []) (st := []) C dX10_count_69 (s_X10_howManyImages G l e10) rfl rfl rfl t_5_34 t_5_36 t_s_20 t_1_1 t_5_37 m_X10_howManyImages ⟨Nat.le_of_ble_eq_true rfl, Nat.le_of_ble_eq_true rfl⟩ ⟨rfl, rfl⟩ ⟨Nat.zero_le _, Nat.zero_le _⟩ rfl (Nat.le_of_ble_eq_true rfl) ?_
    exact r_ireturn C dX10_count_72 (rt_e hF)
  have hF := if_f h7 hF
  by_cases h11 : a1 = (4 : Int32)
  · have hF := if_t h11 hF
    refine r_tabIn (off := 72) C 73 dX10_count_1 (by rw [h11]; decide) (by rw [h11]; decide) (by rw [h11]; rfl) (by decide) ?_
    refine r_aload_n C 0 0 dX10_count_73 rfl rfl ?_
    refine r_getR (kf := 4) (d2 := (7, 0, 0)) C dX10_count_74 rfl rfl f_X10 (by decide) t_2_100 rfl rfl ?_
    obtain ⟨r13, σ12, e14, hF⟩ := bd_e hF
    refine r_callV_i (as := []) (st := []) C dX10_count_77 (s_X6_howManyHoles G l e14) rfl rfl rfl t_5_38 t_5_39 t_5_40 t_1_5 t_5_41 m_X6_howManyHoles ⟨Nat.le_of_ble_eq_true rfl, Nat.le_of_ble_eq_true rfl⟩ ⟨rfl, rfl⟩ ⟨Nat.zero_le _, Nat.zero_le _⟩ rfl (Nat.le_of_ble_eq_true rfl) ?_
    exact r_ireturn C dX10_count_80 (rt_e hF)
  have hF := if_f h11 hF
  by_cases h15 : a1 = (5 : Int32)
  · have hF := if_t h15 hF
    refine r_tabIn (off := 80) C 81 dX10_count_1 (by rw [h15]; decide) (by rw [h15]; decide) (by rw [h15]; rfl) (by decide) ?_
    refine r_aload_n C 0 0 dX10_count_81 rfl rfl ?_
    refine r_getI (kf := 1) C dX10_count_82 rfl rfl f_X10 (by decide) t_2_97 rfl ?_
    exact r_ireturn C dX10_count_85 (rt_e hF)
  have hF := if_f h15 hF
  by_cases h16 : a1 = (6 : Int32)
  · have hF := if_t h16 hF
    refine r_tabIn (off := 85) C 86 dX10_count_1 (by rw [h16]; decide) (by rw [h16]; decide) (by rw [h16]; rfl) (by decide) ?_
    refine r_aload_n C 0 0 dX10_count_86 rfl rfl ?_
    refine r_getR (kf := 10) (d2 := (25, 0, 0)) C dX10_count_87 rfl rfl f_X10 (by decide) t_2_106 rfl rfl ?_
    refine r_iconst (v := (0 : Int32)) C dX10_count_90 rfl ?_
    obtain ⟨h17, hF⟩ := ck_e hF
    refine r_aaload (cA := 0) (d2 := (26, 0, 0)) C dX10_count_91 rfl rfl h17 rfl ?_
    refine r_getI (kf := 1) C dX10_count_92 rfl rfl f_X7 (by decide) t_2_86 rfl ?_
    refine r_iconst (v := (-1 : Int32)) C dX10_count_95 rfl ?_
    refine r_icmp_ne C 104 dX10_count_96 (by decide)  (fun h19 => ?_) (fun h19 => ?_)
    · have hF := if_f h19 hF
      refine r_aload_n C 0 0 dX10_count_104 rfl rfl ?_
      refine r_getR (kf := 10) (d2 := (25, 0, 0)) C dX10_count_105 rfl rfl f_X10 (by decide) t_2_106 rfl rfl ?_
      refine r_iconst (v := (0 : Int32)) C dX10_count_108 rfl ?_
      obtain ⟨h18, hF⟩ := ck_e hF
      refine r_aaload (cA := 0) (d2 := (26, 0, 0)) C dX10_count_109 rfl rfl h18 rfl ?_
      refine r_getI (kf := 2) C dX10_count_110 rfl rfl f_X7 (by decide) t_2_88 rfl ?_
      exact r_ireturn C dX10_count_113 (rt_e hF)
    · have hF := if_t h19 hF
      refine r_bipush (v := (-4 : Int32)) C dX10_count_99 rfl ?_
      refine r_goto C 113 dX10_count_101 (by decide) ?_
      exact r_ireturn C dX10_count_113 (rt_e hF)
  have hF := if_f h16 hF
  refine r_tabOut C 114 dX10_count_1 (by have u0 := lv_neT h1 (a := 0) rfl; have u1 := lv_neT h2 (a := 1) rfl; have u2 := lv_neT h6 (a := 2) rfl; have u3 := lv_neT h7 (a := 3) rfl; have u4 := lv_neT h11 (a := 4) rfl; have u5 := lv_neT h15 (a := 5) rfl; have u6 := lv_neT h16 (a := 6) rfl; omega) (by decide) ?_
  refine r_iconst (v := (-1 : Int32)) C dX10_count_114 rfl ?_
  exact r_ireturn C dX10_count_115 (rt_e hF)
def F_X11_in (a0 : Int64) (a1 : Int64) (a2 : Int64) (σ : St) : Option (Int32 × St) :=
  (if (lg_cmp a0 a1) < 0 then some ((0 : Int32), σ) else (if 0 < (lg_cmp a0 a2) then some ((0 : Int32), σ) else some ((1 : Int32), σ)))
set_option maxRecDepth 20000 in
set_option maxHeartbeats 4000000 in
theorem s_X11_in (G : Gx) (l : Launch) {a0 : Int64} {a1 : Int64} {a2 : Int64} {σ σ' : St} {r : Int32} (hF : F_X11_in a0 a1 a2 σ = some (r, σ')) : Sp G l yX11_in cX11_in 6 (some .boolean) (lvl 0) [vL a0, vL a1, vL a2] σ (va_Qi (fun a b => a = r ∧ b = σ') (Wd G) (AG G)) := by
  refine Sp_of (own := RX11) (by decide) rfl (Nat.le_of_ble_eq_true rfl) ?_
  intro p e s m args below meth c C
  show Rt G p l e (lvl 0) s m args below meth c 0 0 (MQ below (va_Qi (fun a b => a = r ∧ b = σ') (Wd G) (AG G)) args s 0 0 (AG G)) 6 0 [(0, vL a0), (2, vL a1), (4, vL a2)] [] σ
  unfold F_X11_in at hF
  refine r_lload_n C 0 0 dX11_in_0 rfl rfl ?_
  refine r_lload_n C 1 2 dX11_in_1 rfl rfl ?_
  refine r_lcmp C dX11_in_2 ?_
  refine r_if_lt C 17 dX11_in_3 (by decide)  (fun h2 => ?_) (fun h2 => ?_)
  · have hF := if_t h2 hF
    refine r_iconst (v := (0 : Int32)) C dX11_in_17 rfl ?_
    exact r_zreturn C dX11_in_18 (nar_z (Or.inl rfl)) (rt_e hF)
  · have hF := if_f h2 hF
    refine r_lload_n C 0 0 dX11_in_6 rfl rfl ?_
    refine r_lload C 2 dX11_in_7 rfl ?_
    refine r_lcmp C dX11_in_9 ?_
    refine r_if_gt C 17 dX11_in_10 (by decide)  (fun h1 => ?_) (fun h1 => ?_)
    · have hF := if_t h1 hF
      refine r_iconst (v := (0 : Int32)) C dX11_in_17 rfl ?_
      exact r_zreturn C dX11_in_18 (nar_z (Or.inl rfl)) (rt_e hF)
    · have hF := if_f h1 hF
      refine r_iconst (v := (1 : Int32)) C dX11_in_13 rfl ?_
      refine r_goto C 18 dX11_in_14 (by decide) ?_
      exact r_zreturn C dX11_in_18 (nar_z (Or.inr rfl)) (rt_e hF)
def F_X11_flag (a0 : Int32) (σ : St) : Option (Int32 × St) :=
  (if a0 = 0 then some ((0 : Int32), σ) else some ((1 : Int32), σ))
set_option maxRecDepth 20000 in
set_option maxHeartbeats 4000000 in
theorem s_X11_flag (G : Gx) (l : Launch) {a0 : Int32} {σ σ' : St} {r : Int32} (hF : F_X11_flag a0 σ = some (r, σ')) : Sp G l yX11_flag cX11_flag 1 (some .int) (lvl 0) [vI a0] σ (va_Qi (fun a b => a = r ∧ b = σ') (Wd G) (AG G)) := by
  refine Sp_of (own := RX11) (by decide) rfl (Nat.le_of_ble_eq_true rfl) ?_
  intro p e s m args below meth c C
  show Rt G p l e (lvl 0) s m args below meth c 0 0 (MQ below (va_Qi (fun a b => a = r ∧ b = σ') (Wd G) (AG G)) args s 0 0 (AG G)) 1 0 [(0, vI a0)] [] σ
  unfold F_X11_flag at hF
  refine r_iload_n C 0 0 dX11_flag_0 rfl rfl ?_
  refine r_if_eq C 8 dX11_flag_1 (by decide)  (fun h1 => ?_) (fun h1 => ?_)
  · have hF := if_t h1 hF
    refine r_iconst (v := (0 : Int32)) C dX11_flag_8 rfl ?_
    exact r_ireturn C dX11_flag_9 (rt_e hF)
  · have hF := if_f h1 hF
    refine r_iconst (v := (1 : Int32)) C dX11_flag_4 rfl ?_
    refine r_goto C 9 dX11_flag_5 (by decide) ?_
    exact r_ireturn C dX11_flag_9 (rt_e hF)
def F_X11_less (a0 : Int32) (a1 : Int32) (σ : St) : Option (Int32 × St) :=
  (if a1 ≤ a0 then some (a1, σ) else some (a0, σ))
set_option maxRecDepth 20000 in
set_option maxHeartbeats 4000000 in
theorem s_X11_less (G : Gx) (l : Launch) {a0 : Int32} {a1 : Int32} {σ σ' : St} {r : Int32} (hF : F_X11_less a0 a1 σ = some (r, σ')) : Sp G l yX11_less cX11_less 2 (some .int) (lvl 0) [vI a0, vI a1] σ (va_Qi (fun a b => a = r ∧ b = σ') (Wd G) (AG G)) := by
  refine Sp_of (own := RX11) (by decide) rfl (Nat.le_of_ble_eq_true rfl) ?_
  intro p e s m args below meth c C
  show Rt G p l e (lvl 0) s m args below meth c 0 0 (MQ below (va_Qi (fun a b => a = r ∧ b = σ') (Wd G) (AG G)) args s 0 0 (AG G)) 2 0 [(0, vI a0), (1, vI a1)] [] σ
  unfold F_X11_less at hF
  refine r_iload_n C 0 0 dX11_less_0 rfl rfl ?_
  refine r_iload_n C 1 1 dX11_less_1 rfl rfl ?_
  refine r_icmp_ge C 9 dX11_less_2 (by decide)  (fun h1 => ?_) (fun h1 => ?_)
  · have hF := if_t h1 hF
    refine r_iload_n C 1 1 dX11_less_9 rfl rfl ?_
    exact r_ireturn C dX11_less_10 (rt_e hF)
  · have hF := if_f h1 hF
    refine r_iload_n C 0 0 dX11_less_5 rfl rfl ?_
    refine r_goto C 10 dX11_less_6 (by decide) ?_
    exact r_ireturn C dX11_less_10 (rt_e hF)
def L_X11_firstDraft_7  : Nat → Int32 → St → (St → Option (Unit × St)) → Option (Unit × St)
  | 0, _, _, _ => none
  | n + 1, v1, τ, kx26 =>
  (if (96 : Int32) ≤ v1 then kx26  τ else ck (inb v1 96) (nam (uI τ (46, 0, 0) (v1.toNatClampNeg) (4 : Int32)) fun σ3 => nam (v1 + (1 : Int32)) fun x4 => L_X11_firstDraft_7 n x4 σ3 kx26))
def L_X11_firstDraft_28  : Nat → Int32 → St → (St → Option (Unit × St)) → Option (Unit × St)
  | 0, _, _, _ => none
  | n + 1, v1, τ, kx47 =>
  (if (9 : Int32) ≤ v1 then kx47  τ else ck (inb v1 9) (nam (uI τ (45, 0, 0) (v1.toNatClampNeg) (vp_nar .boolean (0 : Int32))) fun σ8 => nam (v1 + (1 : Int32)) fun x9 => L_X11_firstDraft_28 n x9 σ8 kx47))
def F_X11_firstDraft  (σ : St) : Option (Unit × St) :=
  nam (uI σ (40, 0, 0) 5 (0 : Int32)) fun σ1 => L_X11_firstDraft_7  FU (0 : Int32) σ1 (fun  (σ6 : St) => L_X11_firstDraft_28  FU (0 : Int32) σ6 (fun  (σ11 : St) => ck (inb (0 : Int32) 9) (nam (uI σ11 (44, 0, 0) 0 (60 : Int32)) fun σ13 => ck (inb (1 : Int32) 9) (nam (uI σ13 (44, 0, 0) 1 (40 : Int32)) fun σ15 => ck (inb (2 : Int32) 9) (nam (uI σ15 (44, 0, 0) 2 (1 : Int32)) fun σ17 => ck (inb (3 : Int32) 9) (nam (uI σ17 (44, 0, 0) 3 (60 : Int32)) fun σ19 => ck (inb (4 : Int32) 9) (nam (uI σ19 (44, 0, 0) 4 (0 : Int32)) fun σ21 => ck (inb (5 : Int32) 9) (nam (uI σ21 (44, 0, 0) 5 (40 : Int32)) fun σ23 => ck (inb (6 : Int32) 9) (nam (uI σ23 (44, 0, 0) 6 (10 : Int32)) fun σ25 => ck (inb (7 : Int32) 9) (nam (uI σ25 (44, 0, 0) 7 (3 : Int32)) fun σ27 => ck (inb (8 : Int32) 9) (nam (uI σ27 (44, 0, 0) 8 (0 : Int32)) fun σ29 => some ((), σ29))))))))))))
set_option maxRecDepth 20000 in
set_option maxHeartbeats 4000000 in
theorem l_X11_firstDraft_7 {G : Gx} {p : Program} {l : Launch} {e : Env} {s : State} {m : MethodId} {args : Array Value} {below : List Frame} {meth : Method} {c : Code} (C : Cx G p s m args meth c none 2 RX11 cX11_firstDraft)  {σ' : St}  (kx26 : St → Option (Unit × St)) (hkx26 : ∀  (τ : St), kx26  τ = some ((), σ') → Rt G p l e (lvl 0) s m args below meth c 0 0 (MQ below (va_Qv (fun b => b = σ') (Wd G) (AG G)) args s 0 0 (AG G)) 2 26 [(0, vR (40, 0, 0))] [] τ) : ∀ (n : Nat) (v1 : Int32) (τ : St), L_X11_firstDraft_7  n v1 τ kx26 = some ((), σ') → Rt G p l e (lvl 0) s m args below meth c 0 0 (MQ below (va_Qv (fun b => b = σ') (Wd G) (AG G)) args s 0 0 (AG G)) 2 7 [(0, vR (40, 0, 0)), (1, vI v1)] [] τ := by
  intro n
  induction n with
  | zero => intro v1 τ hF; cases hF
  | succ n ih =>
    intro v1 τ hF
    unfold L_X11_firstDraft_7 at hF
    refine r_iload_n C 1 1 dX11_firstDraft_7 rfl rfl ?_
    refine r_bipush (v := (96 : Int32)) C dX11_firstDraft_8 rfl ?_
    refine r_icmp_ge C 26 dX11_firstDraft_10 (by decide)  (fun h5 => ?_) (fun h5 => ?_)
    · have hF := if_t h5 hF
      refine r_drop (ls2 := [(0, vR (40, 0, 0))]) [0] rfl ?_
      exact hkx26 _ hF
    · have hF := if_f h5 hF
      refine r_aload_n C 0 0 dX11_firstDraft_13 rfl rfl ?_
      refine r_getR (kf := 6) (d2 := (46, 0, 0)) C dX11_firstDraft_14 rfl rfl f_X11 (by decide) t_5_62 rfl rfl ?_
      refine r_iload_n C 1 1 dX11_firstDraft_17 rfl rfl ?_
      refine r_iconst (v := (4 : Int32)) C dX11_firstDraft_18 rfl ?_
      obtain ⟨h2, hF⟩ := ck_e hF
      obtain ⟨σ3, eσ3, hF⟩ := nam_e hF
      refine r_iastore C (v1.toNatClampNeg) dX11_firstDraft_19 rfl h2 rfl eσ3 ?_
      obtain ⟨x4, ex4, hF⟩ := nam_e hF
      refine r_iinc (v := x4) (ls2 := [(1, vI x4), (0, vR (40, 0, 0))]) C 1 dX11_firstDraft_20 rfl ex4.symm (by decide) rfl ?_
      refine r_goto C 7 dX11_firstDraft_23 (by decide) ?_
      refine r_drop (ls2 := [(0, vR (40, 0, 0)), (1, vI x4)]) [1, 0] rfl ?_
      exact ih _ _ hF
set_option maxRecDepth 20000 in
set_option maxHeartbeats 4000000 in
theorem l_X11_firstDraft_28 {G : Gx} {p : Program} {l : Launch} {e : Env} {s : State} {m : MethodId} {args : Array Value} {below : List Frame} {meth : Method} {c : Code} (C : Cx G p s m args meth c none 2 RX11 cX11_firstDraft)  {σ' : St}  (kx47 : St → Option (Unit × St)) (hkx47 : ∀  (τ : St), kx47  τ = some ((), σ') → Rt G p l e (lvl 0) s m args below meth c 0 0 (MQ below (va_Qv (fun b => b = σ') (Wd G) (AG G)) args s 0 0 (AG G)) 2 47 [(0, vR (40, 0, 0))] [] τ) : ∀ (n : Nat) (v1 : Int32) (τ : St), L_X11_firstDraft_28  n v1 τ kx47 = some ((), σ') → Rt G p l e (lvl 0) s m args below meth c 0 0 (MQ below (va_Qv (fun b => b = σ') (Wd G) (AG G)) args s 0 0 (AG G)) 2 28 [(0, vR (40, 0, 0)), (1, vI v1)] [] τ := by
  intro n
  induction n with
  | zero => intro v1 τ hF; cases hF
  | succ n ih =>
    intro v1 τ hF
    unfold L_X11_firstDraft_28 at hF
    refine r_iload_n C 1 1 dX11_firstDraft_28 rfl rfl ?_
    refine r_bipush (v := (9 : Int32)) C dX11_firstDraft_29 rfl ?_
    refine r_icmp_ge C 47 dX11_firstDraft_31 (by decide)  (fun h10 => ?_) (fun h10 => ?_)
    · have hF := if_t h10 hF
      refine r_drop (ls2 := [(0, vR (40, 0, 0))]) [0] rfl ?_
      exact hkx47 _ hF
    · have hF := if_f h10 hF
      refine r_aload_n C 0 0 dX11_firstDraft_34 rfl rfl ?_
      refine r_getR (kf := 4) (d2 := (45, 0, 0)) C dX11_firstDraft_35 rfl rfl f_X11 (by decide) t_5_60 rfl rfl ?_
      refine r_iload_n C 1 1 dX11_firstDraft_38 rfl rfl ?_
      refine r_iconst (v := (0 : Int32)) C dX11_firstDraft_39 rfl ?_
      obtain ⟨h7, hF⟩ := ck_e hF
      obtain ⟨σ8, eσ8, hF⟩ := nam_e hF
      refine r_zastore C (v1.toNatClampNeg) dX11_firstDraft_40 rfl h7 rfl eσ8 ?_
      obtain ⟨x9, ex9, hF⟩ := nam_e hF
      refine r_iinc (v := x9) (ls2 := [(1, vI x9), (0, vR (40, 0, 0))]) C 1 dX11_firstDraft_41 rfl ex9.symm (by decide) rfl ?_
      refine r_goto C 28 dX11_firstDraft_44 (by decide) ?_
      refine r_drop (ls2 := [(0, vR (40, 0, 0)), (1, vI x9)]) [1, 0] rfl ?_
      exact ih _ _ hF
set_option maxRecDepth 20000 in
set_option maxHeartbeats 4000000 in
theorem s_X11_firstDraft (G : Gx) (l : Launch)  {σ σ' : St}  (hF : F_X11_firstDraft  σ = some ((), σ')) : Sp G l yX11_firstDraft cX11_firstDraft 2 none (lvl 0) [vR (40, 0, 0)] σ (va_Qv (fun b => b = σ') (Wd G) (AG G)) := by
  refine Sp_of (own := RX11) (by decide) rfl (Nat.le_of_ble_eq_true rfl) ?_
  intro p e s m args below meth c C
  show Rt G p l e (lvl 0) s m args below meth c 0 0 (MQ below (va_Qv (fun b => b = σ') (Wd G) (AG G)) args s 0 0 (AG G)) 2 0 [(0, vR (40, 0, 0))] [] σ
  unfold F_X11_firstDraft at hF
  refine r_aload_n C 0 0 dX11_firstDraft_0 rfl rfl ?_
  refine r_iconst (v := (0 : Int32)) C dX11_firstDraft_1 rfl ?_
  obtain ⟨σ1, eσ1, hF⟩ := nam_e hF
  refine r_put (kf := 5) (ty0 := tyX11) C dX11_firstDraft_2 rfl rfl f_X11 tyX11_ok nmX11 (by decide) t_5_61 rfl rfl rfl rfl eσ1 ?_
  refine r_iconst (v := (0 : Int32)) C dX11_firstDraft_5 rfl ?_
  refine r_istore_n (ls2 := [(1, vI (0 : Int32)), (0, vR (40, 0, 0))]) C dX11_firstDraft_6 1 rfl (by decide) rfl ?_
  refine r_drop (ls2 := [(0, vR (40, 0, 0)), (1, vI (0 : Int32))]) [1, 0] rfl ?_
  refine l_X11_firstDraft_7 C  _ ?_ _ _ _ hF
  · intro  σ6 hF
    refine r_iconst (v := (0 : Int32)) C dX11_firstDraft_26 rfl ?_
    refine r_istore_n (ls2 := [(1, vI (0 : Int32)), (0, vR (40, 0, 0))]) C dX11_firstDraft_27 1 rfl (by decide) rfl ?_
    refine r_drop (ls2 := [(0, vR (40, 0, 0)), (1, vI (0 : Int32))]) [1, 0] rfl ?_
    refine l_X11_firstDraft_28 C  _ ?_ _ _ _ hF
    · intro  σ11 hF
      refine r_aload_n C 0 0 dX11_firstDraft_47 rfl rfl ?_
      refine r_getR (kf := 3) (d2 := (44, 0, 0)) C dX11_firstDraft_48 rfl rfl f_X11 (by decide) t_5_59 rfl rfl ?_
      refine r_iconst (v := (0 : Int32)) C dX11_firstDraft_51 rfl ?_
      refine r_bipush (v := (60 : Int32)) C dX11_firstDraft_52 rfl ?_
      obtain ⟨h12, hF⟩ := ck_e hF
      obtain ⟨σ13, eσ13, hF⟩ := nam_e hF
      refine r_iastore C 0 dX11_firstDraft_54 rfl h12 rfl eσ13 ?_
      refine r_aload_n C 0 0 dX11_firstDraft_55 rfl rfl ?_
      refine r_getR (kf := 3) (d2 := (44, 0, 0)) C dX11_firstDraft_56 rfl rfl f_X11 (by decide) t_5_59 rfl rfl ?_
      refine r_iconst (v := (1 : Int32)) C dX11_firstDraft_59 rfl ?_
      refine r_bipush (v := (40 : Int32)) C dX11_firstDraft_60 rfl ?_
      obtain ⟨h14, hF⟩ := ck_e hF
      obtain ⟨σ15, eσ15, hF⟩ := nam_e hF
      refine r_iastore C 1 dX11_firstDraft_62 rfl h14 rfl eσ15 ?_
      refine r_aload_n C 0 0 dX11_firstDraft_63 rfl rfl ?_
      refine r_getR (kf := 3) (d2 := (44, 0, 0)) C dX11_firstDraft_64 rfl rfl f_X11 (by decide) t_5_59 rfl rfl ?_
      refine r_iconst (v := (2 : Int32)) C dX11_firstDraft_67 rfl ?_
      refine r_iconst (v := (1 : Int32)) C dX11_firstDraft_68 rfl ?_
      obtain ⟨h16, hF⟩ := ck_e hF
      obtain ⟨σ17, eσ17, hF⟩ := nam_e hF
      refine r_iastore C 2 dX11_firstDraft_69 rfl h16 rfl eσ17 ?_
      refine r_aload_n C 0 0 dX11_firstDraft_70 rfl rfl ?_
      refine r_getR (kf := 3) (d2 := (44, 0, 0)) C dX11_firstDraft_71 rfl rfl f_X11 (by decide) t_5_59 rfl rfl ?_
      refine r_iconst (v := (3 : Int32)) C dX11_firstDraft_74 rfl ?_
      refine r_bipush (v := (60 : Int32)) C dX11_firstDraft_75 rfl ?_
      obtain ⟨h18, hF⟩ := ck_e hF
      obtain ⟨σ19, eσ19, hF⟩ := nam_e hF
      refine r_iastore C 3 dX11_firstDraft_77 rfl h18 rfl eσ19 ?_
      refine r_aload_n C 0 0 dX11_firstDraft_78 rfl rfl ?_
      refine r_getR (kf := 3) (d2 := (44, 0, 0)) C dX11_firstDraft_79 rfl rfl f_X11 (by decide) t_5_59 rfl rfl ?_
      refine r_iconst (v := (4 : Int32)) C dX11_firstDraft_82 rfl ?_
      refine r_iconst (v := (0 : Int32)) C dX11_firstDraft_83 rfl ?_
      obtain ⟨h20, hF⟩ := ck_e hF
      obtain ⟨σ21, eσ21, hF⟩ := nam_e hF
      refine r_iastore C 4 dX11_firstDraft_84 rfl h20 rfl eσ21 ?_
      refine r_aload_n C 0 0 dX11_firstDraft_85 rfl rfl ?_
      refine r_getR (kf := 3) (d2 := (44, 0, 0)) C dX11_firstDraft_86 rfl rfl f_X11 (by decide) t_5_59 rfl rfl ?_
      refine r_iconst (v := (5 : Int32)) C dX11_firstDraft_89 rfl ?_
      refine r_bipush (v := (40 : Int32)) C dX11_firstDraft_90 rfl ?_
      obtain ⟨h22, hF⟩ := ck_e hF
      obtain ⟨σ23, eσ23, hF⟩ := nam_e hF
      refine r_iastore C 5 dX11_firstDraft_92 rfl h22 rfl eσ23 ?_
      refine r_aload_n C 0 0 dX11_firstDraft_93 rfl rfl ?_
      refine r_getR (kf := 3) (d2 := (44, 0, 0)) C dX11_firstDraft_94 rfl rfl f_X11 (by decide) t_5_59 rfl rfl ?_
      refine r_bipush (v := (6 : Int32)) C dX11_firstDraft_97 rfl ?_
      refine r_bipush (v := (10 : Int32)) C dX11_firstDraft_99 rfl ?_
      obtain ⟨h24, hF⟩ := ck_e hF
      obtain ⟨σ25, eσ25, hF⟩ := nam_e hF
      refine r_iastore C 6 dX11_firstDraft_101 rfl h24 rfl eσ25 ?_
      refine r_aload_n C 0 0 dX11_firstDraft_102 rfl rfl ?_
      refine r_getR (kf := 3) (d2 := (44, 0, 0)) C dX11_firstDraft_103 rfl rfl f_X11 (by decide) t_5_59 rfl rfl ?_
      refine r_bipush (v := (7 : Int32)) C dX11_firstDraft_106 rfl ?_
      refine r_iconst (v := (3 : Int32)) C dX11_firstDraft_108 rfl ?_
      obtain ⟨h26, hF⟩ := ck_e hF
      obtain ⟨σ27, eσ27, hF⟩ := nam_e hF
      refine r_iastore C 7 dX11_firstDraft_109 rfl h26 rfl eσ27 ?_
      refine r_aload_n C 0 0 dX11_firstDraft_110 rfl rfl ?_
      refine r_getR (kf := 3) (d2 := (44, 0, 0)) C dX11_firstDraft_111 rfl rfl f_X11 (by decide) t_5_59 rfl rfl ?_
      refine r_bipush (v := (8 : Int32)) C dX11_firstDraft_114 rfl ?_
      refine r_iconst (v := (0 : Int32)) C dX11_firstDraft_116 rfl ?_
      obtain ⟨h28, hF⟩ := ck_e hF
      obtain ⟨σ29, eσ29, hF⟩ := nam_e hF
      refine r_iastore C 8 dX11_firstDraft_117 rfl h28 rfl eσ29 ?_
      exact r_return C dX11_firstDraft_118 (rv_e hF)
def L_X11_keepDraft_11 (c1 : Int32) : Nat → Int32 → St → (St → Option (Unit × St)) → Option (Unit × St)
  | 0, _, _, _ => none
  | n + 1, v2, τ, kx46 =>
  (if (192 : Int32) ≤ v2 then kx46  τ else nam (fun (y3 : Int32) (σ5 : St) => ck (inb v2 576) (nam (uI σ5 (41, 0, 0) (v2.toNatClampNeg) y3) fun σ7 => nam (v2 + (1 : Int32)) fun x8 => L_X11_keepDraft_11 c1 n x8 σ7 kx46)) fun k4 => (if (96 : Int32) ≤ v2 then k4 (0 : Int32) τ else ck (inb v2 96) (k4 (τ.1 (46, 0, 0) (v2.toNatClampNeg)) τ)))
def L_X11_keepDraft_57  : Nat → Int32 → St → (St → Option (Unit × St)) → Option (Unit × St)
  | 0, _, _, _ => none
  | n + 1, v2, τ, kx81 =>
  (if (9 : Int32) ≤ v2 then kx81  τ else ck (inb v2 9) (ck (inb v2 9) (nam (uI τ (43, 0, 0) (v2.toNatClampNeg) (τ.1 (44, 0, 0) (v2.toNatClampNeg))) fun σ17 => nam (v2 + (1 : Int32)) fun x18 => L_X11_keepDraft_57 n x18 σ17 kx81)))
def F_X11_keepDraft  (σ : St) : Option (Unit × St) :=
  ck (inb (175 : Int32) 576) (nam (σ.1 (41, 0, 0) 175) fun x2 => L_X11_keepDraft_11 x2 FU (0 : Int32) σ (fun  (σ12 : St) => ck (inb (175 : Int32) 576) (nam (uI σ12 (41, 0, 0) 175 x2) fun σ14 => L_X11_keepDraft_57  FU (0 : Int32) σ14 (fun  (σ20 : St) => nam (uI σ20 (40, 0, 0) 23 (0 : Int32)) fun σ21 => ck (inb (0 : Int32) 2) (nam (uI σ21 (42, 0, 0) 0 (vp_nar .boolean (0 : Int32))) fun σ23 => ck (inb (1 : Int32) 2) (nam (uI σ23 (42, 0, 0) 1 (vp_nar .boolean (0 : Int32))) fun σ25 => some ((), σ25)))))))
set_option maxRecDepth 20000 in
set_option maxHeartbeats 4000000 in
theorem l_X11_keepDraft_11 {G : Gx} {p : Program} {l : Launch} {e : Env} {s : State} {m : MethodId} {args : Array Value} {below : List Frame} {meth : Method} {c : Code} (C : Cx G p s m args meth c none 3 RX11 cX11_keepDraft) (c1 : Int32) {σ' : St}  (kx46 : St → Option (Unit × St)) (hkx46 : ∀  (τ : St), kx46  τ = some ((), σ') → Rt G p l e (lvl 0) s m args below meth c 0 0 (MQ below (va_Qv (fun b => b = σ') (Wd G) (AG G)) args s 0 0 (AG G)) 3 46 [(0, vR (40, 0, 0)), (1, vI c1)] [] τ) : ∀ (n : Nat) (v2 : Int32) (τ : St), L_X11_keepDraft_11 c1 n v2 τ kx46 = some ((), σ') → Rt G p l e (lvl 0) s m args below meth c 0 0 (MQ below (va_Qv (fun b => b = σ') (Wd G) (AG G)) args s 0 0 (AG G)) 3 11 [(0, vR (40, 0, 0)), (1, vI c1), (2, vI v2)] [] τ := by
  intro n
  induction n with
  | zero => intro v2 τ hF; cases hF
  | succ n ih =>
    intro v2 τ hF
    unfold L_X11_keepDraft_11 at hF
    refine r_iload_n C 2 2 dX11_keepDraft_11 rfl rfl ?_
    refine r_sipush (v := (192 : Int32)) C dX11_keepDraft_12 rfl ?_
    refine r_icmp_ge C 46 dX11_keepDraft_15 (by decide)  (fun h11 => ?_) (fun h11 => ?_)
    · have hF := if_t h11 hF
      refine r_drop (ls2 := [(0, vR (40, 0, 0)), (1, vI c1)]) [0, 1] rfl ?_
      exact hkx46 _ hF
    · have hF := if_f h11 hF
      refine r_aload_n C 0 0 dX11_keepDraft_18 rfl rfl ?_
      refine r_getR (kf := 0) (d2 := (41, 0, 0)) C dX11_keepDraft_19 rfl rfl f_X11 (by decide) t_5_56 rfl rfl ?_
      refine r_iload_n C 2 2 dX11_keepDraft_22 rfl rfl ?_
      refine r_iload_n C 2 2 dX11_keepDraft_23 rfl rfl ?_
      refine r_bipush (v := (96 : Int32)) C dX11_keepDraft_24 rfl ?_
      obtain ⟨k4, ek4, hF⟩ := nam_e hF
      have hk4 : ∀ (y3 : Int32) (σ5 : St), k4 y3 σ5 = some ((), σ') → Rt G p l e (lvl 0) s m args below meth c 0 0 (MQ below (va_Qv (fun b => b = σ') (Wd G) (AG G)) args s 0 0 (AG G)) 3 39 [(0, vR (40, 0, 0)), (1, vI c1), (2, vI v2)] [vI y3, vI v2, vR (41, 0, 0)] σ5 := by
        intro y3 σ5 hF
        subst ek4
        obtain ⟨h6, hF⟩ := ck_e hF
        obtain ⟨σ7, eσ7, hF⟩ := nam_e hF
        refine r_iastore C (v2.toNatClampNeg) dX11_keepDraft_39 rfl h6 rfl eσ7 ?_
        obtain ⟨x8, ex8, hF⟩ := nam_e hF
        refine r_iinc (v := x8) (ls2 := [(2, vI x8), (0, vR (40, 0, 0)), (1, vI c1)]) C 2 dX11_keepDraft_40 rfl ex8.symm (by decide) rfl ?_
        refine r_goto C 11 dX11_keepDraft_43 (by decide) ?_
        refine r_drop (ls2 := [(0, vR (40, 0, 0)), (1, vI c1), (2, vI x8)]) [1, 2, 0] rfl ?_
        exact ih _ _ hF
      refine r_icmp_ge C 38 dX11_keepDraft_26 (by decide)  (fun h10 => ?_) (fun h10 => ?_)
      · have hF := if_t h10 hF
        refine r_iconst (v := (0 : Int32)) C dX11_keepDraft_38 rfl ?_
        exact hk4 _ _ hF
      · have hF := if_f h10 hF
        refine r_aload_n C 0 0 dX11_keepDraft_29 rfl rfl ?_
        refine r_getR (kf := 6) (d2 := (46, 0, 0)) C dX11_keepDraft_30 rfl rfl f_X11 (by decide) t_5_62 rfl rfl ?_
        refine r_iload_n C 2 2 dX11_keepDraft_33 rfl rfl ?_
        obtain ⟨h9, hF⟩ := ck_e hF
        refine r_iaload C (v2.toNatClampNeg) dX11_keepDraft_34 rfl h9 rfl ?_
        refine r_goto C 39 dX11_keepDraft_35 (by decide) ?_
        exact hk4 _ _ hF
set_option maxRecDepth 20000 in
set_option maxHeartbeats 4000000 in
theorem l_X11_keepDraft_57 {G : Gx} {p : Program} {l : Launch} {e : Env} {s : State} {m : MethodId} {args : Array Value} {below : List Frame} {meth : Method} {c : Code} (C : Cx G p s m args meth c none 3 RX11 cX11_keepDraft)  {σ' : St}  (kx81 : St → Option (Unit × St)) (hkx81 : ∀  (τ : St), kx81  τ = some ((), σ') → Rt G p l e (lvl 0) s m args below meth c 0 0 (MQ below (va_Qv (fun b => b = σ') (Wd G) (AG G)) args s 0 0 (AG G)) 3 81 [(0, vR (40, 0, 0))] [] τ) : ∀ (n : Nat) (v2 : Int32) (τ : St), L_X11_keepDraft_57  n v2 τ kx81 = some ((), σ') → Rt G p l e (lvl 0) s m args below meth c 0 0 (MQ below (va_Qv (fun b => b = σ') (Wd G) (AG G)) args s 0 0 (AG G)) 3 57 [(0, vR (40, 0, 0)), (2, vI v2)] [] τ := by
  intro n
  induction n with
  | zero => intro v2 τ hF; cases hF
  | succ n ih =>
    intro v2 τ hF
    unfold L_X11_keepDraft_57 at hF
    refine r_iload_n C 1 2 dX11_keepDraft_57 rfl rfl ?_
    refine r_bipush (v := (9 : Int32)) C dX11_keepDraft_58 rfl ?_
    refine r_icmp_ge C 81 dX11_keepDraft_60 (by decide)  (fun h19 => ?_) (fun h19 => ?_)
    · have hF := if_t h19 hF
      refine r_drop (ls2 := [(0, vR (40, 0, 0))]) [0] rfl ?_
      exact hkx81 _ hF
    · have hF := if_f h19 hF
      refine r_aload_n C 0 0 dX11_keepDraft_63 rfl rfl ?_
      refine r_getR (kf := 2) (d2 := (43, 0, 0)) C dX11_keepDraft_64 rfl rfl f_X11 (by decide) t_5_58 rfl rfl ?_
      refine r_iload_n C 1 2 dX11_keepDraft_67 rfl rfl ?_
      refine r_aload_n C 0 0 dX11_keepDraft_68 rfl rfl ?_
      refine r_getR (kf := 3) (d2 := (44, 0, 0)) C dX11_keepDraft_69 rfl rfl f_X11 (by decide) t_5_59 rfl rfl ?_
      refine r_iload_n C 1 2 dX11_keepDraft_72 rfl rfl ?_
      obtain ⟨h15, hF⟩ := ck_e hF
      refine r_iaload C (v2.toNatClampNeg) dX11_keepDraft_73 rfl h15 rfl ?_
      obtain ⟨h16, hF⟩ := ck_e hF
      obtain ⟨σ17, eσ17, hF⟩ := nam_e hF
      refine r_iastore C (v2.toNatClampNeg) dX11_keepDraft_74 rfl h16 rfl eσ17 ?_
      obtain ⟨x18, ex18, hF⟩ := nam_e hF
      refine r_iinc (v := x18) (ls2 := [(2, vI x18), (0, vR (40, 0, 0))]) C 1 dX11_keepDraft_75 rfl ex18.symm (by decide) rfl ?_
      refine r_goto C 57 dX11_keepDraft_78 (by decide) ?_
      refine r_drop (ls2 := [(0, vR (40, 0, 0)), (2, vI x18)]) [1, 0] rfl ?_
      exact ih _ _ hF
set_option maxRecDepth 20000 in
set_option maxHeartbeats 4000000 in
theorem s_X11_keepDraft (G : Gx) (l : Launch)  {σ σ' : St}  (hF : F_X11_keepDraft  σ = some ((), σ')) : Sp G l yX11_keepDraft cX11_keepDraft 3 none (lvl 0) [vR (40, 0, 0)] σ (va_Qv (fun b => b = σ') (Wd G) (AG G)) := by
  refine Sp_of (own := RX11) (by decide) rfl (Nat.le_of_ble_eq_true rfl) ?_
  intro p e s m args below meth c C
  show Rt G p l e (lvl 0) s m args below meth c 0 0 (MQ below (va_Qv (fun b => b = σ') (Wd G) (AG G)) args s 0 0 (AG G)) 3 0 [(0, vR (40, 0, 0))] [] σ
  unfold F_X11_keepDraft at hF
  refine r_aload_n C 0 0 dX11_keepDraft_0 rfl rfl ?_
  refine r_getR (kf := 0) (d2 := (41, 0, 0)) C dX11_keepDraft_1 rfl rfl f_X11 (by decide) t_5_56 rfl rfl ?_
  refine r_sipush (v := (175 : Int32)) C dX11_keepDraft_4 rfl ?_
  obtain ⟨h1, hF⟩ := ck_e hF
  refine r_iaload C 175 dX11_keepDraft_7 rfl h1 rfl ?_
  obtain ⟨x2, ex2, hF⟩ := nam_e hF
  refine r_topI ex2 ?_
  refine r_istore_n (ls2 := [(1, vI x2), (0, vR (40, 0, 0))]) C dX11_keepDraft_8 1 rfl (by decide) rfl ?_
  refine r_iconst (v := (0 : Int32)) C dX11_keepDraft_9 rfl ?_
  refine r_istore_n (ls2 := [(2, vI (0 : Int32)), (1, vI x2), (0, vR (40, 0, 0))]) C dX11_keepDraft_10 2 rfl (by decide) rfl ?_
  refine r_drop (ls2 := [(0, vR (40, 0, 0)), (1, vI x2), (2, vI (0 : Int32))]) [2, 1, 0] rfl ?_
  refine l_X11_keepDraft_11 C x2 _ ?_ _ _ _ hF
  · intro  σ12 hF
    refine r_aload_n C 0 0 dX11_keepDraft_46 rfl rfl ?_
    refine r_getR (kf := 0) (d2 := (41, 0, 0)) C dX11_keepDraft_47 rfl rfl f_X11 (by decide) t_5_56 rfl rfl ?_
    refine r_sipush (v := (175 : Int32)) C dX11_keepDraft_50 rfl ?_
    refine r_iload_n C 1 1 dX11_keepDraft_53 rfl rfl ?_
    obtain ⟨h13, hF⟩ := ck_e hF
    obtain ⟨σ14, eσ14, hF⟩ := nam_e hF
    refine r_iastore C 175 dX11_keepDraft_54 rfl h13 rfl eσ14 ?_
    refine r_iconst (v := (0 : Int32)) C dX11_keepDraft_55 rfl ?_
    refine r_istore_n (ls2 := [(2, vI (0 : Int32)), (0, vR (40, 0, 0)), (1, vI x2)]) C dX11_keepDraft_56 2 rfl (by decide) rfl ?_
    refine r_drop (ls2 := [(0, vR (40, 0, 0)), (2, vI (0 : Int32))]) [1, 0] rfl ?_
    refine l_X11_keepDraft_57 C  _ ?_ _ _ _ hF
    · intro  σ20 hF
      refine r_aload_n C 0 0 dX11_keepDraft_81 rfl rfl ?_
      refine r_iconst (v := (0 : Int32)) C dX11_keepDraft_82 rfl ?_
      obtain ⟨σ21, eσ21, hF⟩ := nam_e hF
      refine r_put (kf := 23) (ty0 := tyX11) C dX11_keepDraft_83 rfl rfl f_X11 tyX11_ok nmX11 (by decide) t_5_79 rfl rfl rfl rfl eσ21 ?_
      refine r_aload_n C 0 0 dX11_keepDraft_86 rfl rfl ?_
      refine r_getR (kf := 1) (d2 := (42, 0, 0)) C dX11_keepDraft_87 rfl rfl f_X11 (by decide) t_5_57 rfl rfl ?_
      refine r_iconst (v := (0 : Int32)) C dX11_keepDraft_90 rfl ?_
      refine r_iconst (v := (0 : Int32)) C dX11_keepDraft_91 rfl ?_
      obtain ⟨h22, hF⟩ := ck_e hF
      obtain ⟨σ23, eσ23, hF⟩ := nam_e hF
      refine r_zastore C 0 dX11_keepDraft_92 rfl h22 rfl eσ23 ?_
      refine r_aload_n C 0 0 dX11_keepDraft_93 rfl rfl ?_
      refine r_getR (kf := 1) (d2 := (42, 0, 0)) C dX11_keepDraft_94 rfl rfl f_X11 (by decide) t_5_57 rfl rfl ?_
      refine r_iconst (v := (1 : Int32)) C dX11_keepDraft_97 rfl ?_
      refine r_iconst (v := (0 : Int32)) C dX11_keepDraft_98 rfl ?_
      obtain ⟨h24, hF⟩ := ck_e hF
      obtain ⟨σ25, eσ25, hF⟩ := nam_e hF
      refine r_zastore C 1 dX11_keepDraft_99 rfl h24 rfl eσ25 ?_
      exact r_return C dX11_keepDraft_100 (rv_e hF)
