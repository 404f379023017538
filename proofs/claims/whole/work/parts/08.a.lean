def L_X10_feed_15 (c1 : Int64) : Nat → Int32 → St → (St → Option (Int32 × St)) → Option (Int32 × St)
  | 0, _, _, _ => none
  | n + 1, v3, τ, kx52 =>
  (if (8 : Int32) ≤ v3 then kx52  τ else ck (inb ((τ.1 (0, 0, 0) 1) + v3) 320) (nam (uI τ (1, 0, 0) (((τ.1 (0, 0, 0) 1) + v3).toNatClampNeg) (vp_nar .byte ((((c1.toUInt64 >>> (((8 : Int32) * ((7 : Int32) - v3)).toInt64.toUInt64 &&& Int64.toUInt64 63)).toInt64).toInt32).toInt8.toInt32))) fun σ2 => nam (v3 + (1 : Int32)) fun x3 => L_X10_feed_15 c1 n x3 σ2 kx52))
def F_X10_feed (a1 : Int64) (σ : St) : Option (Int32 × St) :=
  (if (σ.1 (0, 0, 0) 1) ≤ (312 : Int32) then L_X10_feed_15 a1 FU (0 : Int32) σ (fun  (σ5 : St) => nam (uI σ5 (0, 0, 0) 1 ((σ5.1 (0, 0, 0) 1) + (8 : Int32))) fun σ6 => some (σ6.1 (0, 0, 0) 1, σ6)) else some ((-3 : Int32), σ))
set_option maxRecDepth 20000 in
set_option maxHeartbeats 4000000 in
theorem l_X10_feed_15 {G : Gx} {p : Program} {l : Launch} {e : Env} {s : State} {m : MethodId} {args : Array Value} {below : List Frame} {meth : Method} {c : Code} (C : Cx G p s m args meth c (some .int) 4 RX10 cX10_feed) (c1 : Int64) {σ' : St} {r : Int32} (kx52 : St → Option (Int32 × St)) (hkx52 : ∀  (τ : St), kx52  τ = some (r, σ') → Rt G p l e (lvl 0) s m args below meth c 0 0 (MQ below (va_Qi (fun a b => a = r ∧ b = σ') (Wd G) (AG G)) args s 0 0 (AG G)) 4 52 [(0, vR (0, 0, 0))] [] τ) : ∀ (n : Nat) (v3 : Int32) (τ : St), L_X10_feed_15 c1 n v3 τ kx52 = some (r, σ') → Rt G p l e (lvl 0) s m args below meth c 0 0 (MQ below (va_Qi (fun a b => a = r ∧ b = σ') (Wd G) (AG G)) args s 0 0 (AG G)) 4 15 [(0, vR (0, 0, 0)), (1, vL c1), (3, vI v3)] [] τ := by
  intro n
  induction n with
  | zero => intro v3 τ hF; cases hF
  | succ n ih =>
    intro v3 τ hF
    unfold L_X10_feed_15 at hF
    refine r_iload_n C 2 3 dX10_feed_15 rfl rfl ?_
    refine r_bipush (v := (8 : Int32)) C dX10_feed_16 rfl ?_
    refine r_icmp_ge C 52 dX10_feed_18 (by decide)  (fun h4 => ?_) (fun h4 => ?_)
    · have hF := if_t h4 hF
      refine r_drop (ls2 := [(0, vR (0, 0, 0))]) [0] rfl ?_
      exact hkx52 _ hF
    · have hF := if_f h4 hF
      refine r_aload_n C 0 0 dX10_feed_21 rfl rfl ?_
      refine r_getR (kf := 0) (d2 := (2, 0, 0)) C dX10_feed_22 rfl rfl f_X10 (by decide) t_2_96 rfl rfl ?_
      refine r_getR (kf := 0) (d2 := (1, 0, 0)) C dX10_feed_25 rfl rfl f_X8 (by decide) t_1_57 rfl rfl ?_
      refine r_aload_n C 0 0 dX10_feed_28 rfl rfl ?_
      refine r_getI (kf := 1) C dX10_feed_29 rfl rfl f_X10 (by decide) t_2_97 rfl ?_
      refine r_iload_n C 2 3 dX10_feed_32 rfl rfl ?_
      refine r_iadd C dX10_feed_33 ?_
      refine r_lload_n C 1 1 dX10_feed_34 rfl rfl ?_
      refine r_bipush (v := (8 : Int32)) C dX10_feed_35 rfl ?_
      refine r_bipush (v := (7 : Int32)) C dX10_feed_37 rfl ?_
      refine r_iload_n C 2 3 dX10_feed_39 rfl rfl ?_
      refine r_isub C dX10_feed_40 ?_
      refine r_imul C dX10_feed_41 ?_
      refine r_lushr C dX10_feed_42 ?_
      refine r_l2i C dX10_feed_43 ?_
      refine r_i2b C dX10_feed_44 ?_
      obtain ⟨h1, hF⟩ := ck_e hF
      obtain ⟨σ2, eσ2, hF⟩ := nam_e hF
      refine r_bastore C (((τ.1 (0, 0, 0) 1) + v3).toNatClampNeg) dX10_feed_45 rfl h1 rfl eσ2 ?_
      obtain ⟨x3, ex3, hF⟩ := nam_e hF
      refine r_iinc (v := x3) (ls2 := [(3, vI x3), (0, vR (0, 0, 0)), (1, vL c1)]) C 2 dX10_feed_46 rfl ex3.symm (by decide) rfl ?_
      refine r_goto C 15 dX10_feed_49 (by decide) ?_
      refine r_drop (ls2 := [(0, vR (0, 0, 0)), (1, vL c1), (3, vI x3)]) [1, 2, 0] rfl ?_
      exact ih _ _ hF
set_option maxRecDepth 20000 in
set_option maxHeartbeats 4000000 in
theorem s_X10_feed (G : Gx) (l : Launch) {a1 : Int64} {σ σ' : St} {r : Int32} (hF : F_X10_feed a1 σ = some (r, σ')) : Sp G l yX10_feed cX10_feed 4 (some .int) (lvl 0) [vR (0, 0, 0), vL a1] σ (va_Qi (fun a b => a = r ∧ b = σ') (Wd G) (AG G)) := by
  refine Sp_of (own := RX10) (by decide) rfl (Nat.le_of_ble_eq_true rfl) ?_
  intro p e s m args below meth c C
  show Rt G p l e (lvl 0) s m args below meth c 0 0 (MQ below (va_Qi (fun a b => a = r ∧ b = σ') (Wd G) (AG G)) args s 0 0 (AG G)) 4 0 [(0, vR (0, 0, 0)), (1, vL a1)] [] σ
  unfold F_X10_feed at hF
  refine r_aload_n C 0 0 dX10_feed_0 rfl rfl ?_
  refine r_getI (kf := 1) C dX10_feed_1 rfl rfl f_X10 (by decide) t_2_97 rfl ?_
  refine r_sipush (v := (312 : Int32)) C dX10_feed_4 rfl ?_
  refine r_icmp_le C 13 dX10_feed_7 (by decide)  (fun h7 => ?_) (fun h7 => ?_)
  · have hF := if_t h7 hF
    refine r_iconst (v := (0 : Int32)) C dX10_feed_13 rfl ?_
    refine r_istore_n (ls2 := [(3, vI (0 : Int32)), (0, vR (0, 0, 0)), (1, vL a1)]) C dX10_feed_14 3 rfl (by decide) rfl ?_
    refine r_drop (ls2 := [(0, vR (0, 0, 0)), (1, vL a1), (3, vI (0 : Int32))]) [1, 2, 0] rfl ?_
    refine l_X10_feed_15 C a1 _ ?_ _ _ _ hF
    · intro  σ5 hF
      refine r_aload_n C 0 0 dX10_feed_52 rfl rfl ?_
      refine r_dup_r C dX10_feed_53 ?_
      refine r_getI (kf := 1) C dX10_feed_54 rfl rfl f_X10 (by decide) t_2_97 rfl ?_
      refine r_bipush (v := (8 : Int32)) C dX10_feed_57 rfl ?_
      refine r_iadd C dX10_feed_59 ?_
      obtain ⟨σ6, eσ6, hF⟩ := nam_e hF
      refine r_put (kf := 1) (ty0 := tyX10) C dX10_feed_60 rfl rfl f_X10 tyX10_ok nmX10 (by decide) t_2_97 rfl rfl rfl rfl eσ6 ?_
      refine r_aload_n C 0 0 dX10_feed_63 rfl rfl ?_
      refine r_getI (kf := 1) C dX10_feed_64 rfl rfl f_X10 (by decide) t_2_97 rfl ?_
      exact r_ireturn C dX10_feed_67 (rt_e hF)
  · have hF := if_f h7 hF
    refine r_bipush (v := (-3 : Int32)) C dX10_feed_10 rfl ?_
    exact r_ireturn C dX10_feed_12 (rt_e hF)
def F_X10_within (a0 : Int32) (a1 : Int32) (a2 : Int32) (σ : St) : Option (Int32 × St) :=
  (if a0 < a1 then some ((0 : Int32), σ) else (if a2 < a0 then some ((0 : Int32), σ) else some ((1 : Int32), σ)))
set_option maxRecDepth 20000 in
set_option maxHeartbeats 4000000 in
theorem s_X10_within (G : Gx) (l : Launch) {a0 : Int32} {a1 : Int32} {a2 : Int32} {σ σ' : St} {r : Int32} (hF : F_X10_within a0 a1 a2 σ = some (r, σ')) : Sp G l yX10_within cX10_within 3 (some .boolean) (lvl 0) [vI a0, vI a1, vI a2] σ (va_Qi (fun a b => a = r ∧ b = σ') (Wd G) (AG G)) := by
  refine Sp_of (own := RX10) (by decide) rfl (Nat.le_of_ble_eq_true rfl) ?_
  intro p e s m args below meth c C
  show Rt G p l e (lvl 0) s m args below meth c 0 0 (MQ below (va_Qi (fun a b => a = r ∧ b = σ') (Wd G) (AG G)) args s 0 0 (AG G)) 3 0 [(0, vI a0), (1, vI a1), (2, vI a2)] [] σ
  unfold F_X10_within at hF
  refine r_iload_n C 0 0 dX10_within_0 rfl rfl ?_
  refine r_iload_n C 1 1 dX10_within_1 rfl rfl ?_
  refine r_icmp_lt C 14 dX10_within_2 (by decide)  (fun h2 => ?_) (fun h2 => ?_)
  · have hF := if_t h2 hF
    refine r_iconst (v := (0 : Int32)) C dX10_within_14 rfl ?_
    exact r_zreturn C dX10_within_15 (nar_z (Or.inl rfl)) (rt_e hF)
  · have hF := if_f h2 hF
    refine r_iload_n C 0 0 dX10_within_5 rfl rfl ?_
    refine r_iload_n C 2 2 dX10_within_6 rfl rfl ?_
    refine r_icmp_gt C 14 dX10_within_7 (by decide)  (fun h1 => ?_) (fun h1 => ?_)
    · have hF := if_t h1 hF
      refine r_iconst (v := (0 : Int32)) C dX10_within_14 rfl ?_
      exact r_zreturn C dX10_within_15 (nar_z (Or.inl rfl)) (rt_e hF)
    · have hF := if_f h1 hF
      refine r_iconst (v := (1 : Int32)) C dX10_within_10 rfl ?_
      refine r_goto C 15 dX10_within_11 (by decide) ?_
      exact r_zreturn C dX10_within_15 (nar_z (Or.inr rfl)) (rt_e hF)
def F_X10_end (a1 : Int32) (σ : St) : Option (Int32 × St) :=
  bd (F_X10_within a1 (0 : Int32) (σ.1 (0, 0, 0) 1) σ) fun r2 σ1 => (if r2 = 0 then some ((-1 : Int32), σ1) else nam (σ1.1 (0, 0, 0) 1) fun x4 => nam (uI σ1 (0, 0, 0) 1 a1) fun σ5 => some (x4, σ5))
set_option maxRecDepth 20000 in
set_option maxHeartbeats 4000000 in
theorem s_X10_end (G : Gx) (l : Launch) {a1 : Int32} {σ σ' : St} {r : Int32} (hF : F_X10_end a1 σ = some (r, σ')) : Sp G l yX10_end cX10_end 3 (some .int) (lvl 1) [vR (0, 0, 0), vI a1] σ (va_Qi (fun a b => a = r ∧ b = σ') (Wd G) (AG G)) := by
  refine Sp_of (own := RX10) (by decide) rfl (Nat.le_of_ble_eq_true rfl) ?_
  intro p e s m args below meth c C
  show Rt G p l e (lvl 1) s m args below meth c 0 0 (MQ below (va_Qi (fun a b => a = r ∧ b = σ') (Wd G) (AG G)) args s 0 0 (AG G)) 3 0 [(0, vR (0, 0, 0)), (1, vI a1)] [] σ
  unfold F_X10_end at hF
  refine r_iload_n C 1 1 dX10_end_0 rfl rfl ?_
  refine r_iconst (v := (0 : Int32)) C dX10_end_1 rfl ?_
  refine r_aload_n C 0 0 dX10_end_2 rfl rfl ?_
  refine r_getI (kf := 1) C dX10_end_3 rfl rfl f_X10 (by decide) t_2_97 rfl ?_
  obtain ⟨r2, σ1, e3, hF⟩ := bd_e hF
  refine r_callS_i (as := [vI a1, vI (0 : Int32), vI (σ.1 (0, 0, 0) 1)]) (st := []) C dX10_end_6 (s_X10_within G l e3) t_2_141 t_2_142 t_1_1 t_2_143 m_X10_within ⟨Nat.le_of_ble_eq_true rfl, Nat.le_of_ble_eq_true rfl⟩ ⟨rfl, rfl⟩ ⟨Nat.zero_le _, Nat.zero_le _⟩ rfl (Nat.le_of_ble_eq_true rfl) ?_
  refine r_if_ne C 14 dX10_end_9 (by decide)  (fun h6 => ?_) (fun h6 => ?_)
  · have hF := if_f h6 hF
    refine r_aload_n C 0 0 dX10_end_14 rfl rfl ?_
    refine r_getI (kf := 1) C dX10_end_15 rfl rfl f_X10 (by decide) t_2_97 rfl ?_
    obtain ⟨x4, ex4, hF⟩ := nam_e hF
    refine r_topI ex4 ?_
    refine r_istore_n (ls2 := [(2, vI x4), (0, vR (0, 0, 0)), (1, vI a1)]) C dX10_end_18 2 rfl (by decide) rfl ?_
    refine r_aload_n C 1 0 dX10_end_19 rfl rfl ?_
    refine r_iload_n C 2 1 dX10_end_20 rfl rfl ?_
    obtain ⟨σ5, eσ5, hF⟩ := nam_e hF
    refine r_put (kf := 1) (ty0 := tyX10) C dX10_end_21 rfl rfl f_X10 tyX10_ok nmX10 (by decide) t_2_97 rfl rfl rfl rfl eσ5 ?_
    refine r_iload_n C 0 2 dX10_end_24 rfl rfl ?_
    exact r_ireturn C dX10_end_25 (rt_e hF)
  · have hF := if_t h6 hF
    refine r_iconst (v := (-1 : Int32)) C dX10_end_12 rfl ?_
    exact r_ireturn C dX10_end_13 (rt_e hF)
def F_X5_beginAnew (q0 : Nat) (σ : St) : Option (Unit × St) :=
  ck (cpk (0 : Int32) (0 : Int32) (9 : Int32) 9 9) (nam (uR σ (4, q0, 0) (va_cpy (roC 102) (σ.1 (4, q0, 0)) (0 : Int32).toNatClampNeg (0 : Int32).toNatClampNeg (9 : Int32).toNatClampNeg)) fun σ2 => some ((), σ2))
set_option maxRecDepth 20000 in
set_option maxHeartbeats 4000000 in
theorem s_X5_beginAnew (G : Gx) (l : Launch) {q0 : Nat} {σ σ' : St}  (hF : F_X5_beginAnew q0 σ = some ((), σ')) : Sp G l yX5_beginAnew cX5_beginAnew 1 none (lvl 1) [vR (3, q0, 0)] σ (va_Qv (fun b => b = σ') (Wd G) (AG G)) := by
  refine Sp_of (own := RX5) (by decide) rfl (Nat.le_of_ble_eq_true rfl) ?_
  intro p e s m args below meth c C
  show Rt G p l e (lvl 1) s m args below meth c 0 0 (MQ below (va_Qv (fun b => b = σ') (Wd G) (AG G)) args s 0 0 (AG G)) 1 0 [(0, vR (3, q0, 0))] [] σ
  unfold F_X5_beginAnew at hF
  refine r_getsN (t := 102) (nm := "RULE_FIRST") C dX5_beginAnew_0 (by decide) (by decide) (by decide) ?_
  refine r_iconst (v := (0 : Int32)) C dX5_beginAnew_3 rfl ?_
  refine r_aload_n C 0 0 dX5_beginAnew_4 rfl rfl ?_
  refine r_getR (kf := 0) (d2 := (4, q0, 0)) C dX5_beginAnew_5 rfl rfl f_X5 (by decide) t_1_50 rfl rfl ?_
  refine r_iconst (v := (0 : Int32)) C dX5_beginAnew_8 rfl ?_
  refine r_bipush (v := (9 : Int32)) C dX5_beginAnew_9 rfl ?_
  obtain ⟨h1, hF⟩ := ck_e hF
  obtain ⟨σ2, eσ2, hF⟩ := nam_e hF
  refine r_copyT (t := 102) C dX5_beginAnew_11 (by decide) rfl rfl t_1_47 t_1_49 t_1_48 t_1_4 ⟨Nat.le_of_ble_eq_true rfl, Nat.le_of_ble_eq_true rfl⟩ h1 rfl eσ2 ?_
  exact r_return C dX5_beginAnew_14 (rv_e hF)
def L_J7_fill_53178_t5_5 (c1 : Int32) (c3 : Int32) : Nat → Int32 → St → Option (Unit × St)
  | 0, _, _ => none
  | n + 1, v2, τ =>
  (if c3 ≤ v2 then some ((), τ) else ck (inb v2 96) (nam (uI τ (5, 0, 0) (v2.toNatClampNeg) c1) fun σ2 => nam (v2 + (1 : Int32)) fun x3 => L_J7_fill_53178_t5_5 c1 c3 n x3 σ2))
def F_J7_fill_53178_t5 (a1 : Int32) (σ : St) : Option (Unit × St) :=
  L_J7_fill_53178_t5_5 a1 (96 : Int32) FU (0 : Int32) σ 
set_option maxRecDepth 20000 in
set_option maxHeartbeats 4000000 in
theorem l_J7_fill_53178_t5_5 {G : Gx} {p : Program} {l : Launch} {e : Env} {s : State} {m : MethodId} {args : Array Value} {below : List Frame} {meth : Method} {c : Code} (C : Cx G p s m args meth c none 4 RJ7 cJ7_fill_53178) (c1 : Int32) (c3 : Int32) {σ' : St}  : ∀ (n : Nat) (v2 : Int32) (τ : St), L_J7_fill_53178_t5_5 c1 c3 n v2 τ = some ((), σ') → Rt G p l e (lvl 0) s m args below meth c 0 0 (MQ below (va_Qv (fun b => b = σ') (Wd G) (AG G)) args s 0 0 (AG G)) 4 5 [(0, vR (5, 0, 0)), (1, vI c1), (2, vI v2), (3, vI c3)] [] τ := by
  intro n
  induction n with
  | zero => intro v2 τ hF; cases hF
  | succ n ih =>
    intro v2 τ hF
    unfold L_J7_fill_53178_t5_5 at hF
    refine r_iload_n C 2 2 dJ7_fill_53178_5 rfl rfl ?_
    refine r_iload_n C 3 3 dJ7_fill_53178_6 rfl rfl ?_
    refine r_icmp_ge C 20 dJ7_fill_53178_7 (by decide)  (fun h4 => ?_) (fun h4 => ?_)
    · have hF := if_t h4 hF
      exact r_return C dJ7_fill_53178_20 (rv_e hF)
    · have hF := if_f h4 hF
      refine r_aload_n C 0 0 dJ7_fill_53178_10 rfl rfl ?_
      refine r_iload_n C 2 2 dJ7_fill_53178_11 rfl rfl ?_
      refine r_iload_n C 1 1 dJ7_fill_53178_12 rfl rfl ?_
      obtain ⟨h1, hF⟩ := ck_e hF
      obtain ⟨σ2, eσ2, hF⟩ := nam_e hF
      refine r_iastore C (v2.toNatClampNeg) dJ7_fill_53178_13 rfl h1 rfl eσ2 ?_
      obtain ⟨x3, ex3, hF⟩ := nam_e hF
      refine r_iinc (v := x3) (ls2 := [(2, vI x3), (0, vR (5, 0, 0)), (1, vI c1), (3, vI c3)]) C 2 dJ7_fill_53178_14 rfl ex3.symm (by decide) rfl ?_
      refine r_goto C 5 dJ7_fill_53178_17 (by decide) ?_
      refine r_drop (ls2 := [(0, vR (5, 0, 0)), (1, vI c1), (2, vI x3), (3, vI c3)]) [1, 2, 0, 3] rfl ?_
      exact ih _ _ hF
set_option maxRecDepth 20000 in
set_option maxHeartbeats 4000000 in
theorem s_J7_fill_53178_t5 (G : Gx) (l : Launch) {a1 : Int32} {σ σ' : St}  (hF : F_J7_fill_53178_t5 a1 σ = some ((), σ')) : Sp G l yJ7_fill_53178 cJ7_fill_53178 4 none (lvl 0) [vR (5, 0, 0), vI a1] σ (va_Qv (fun b => b = σ') (Wd G) (AG G)) := by
  refine Sp_of (own := RJ7) (by decide) rfl (Nat.le_of_ble_eq_true rfl) ?_
  intro p e s m args below meth c C
  show Rt G p l e (lvl 0) s m args below meth c 0 0 (MQ below (va_Qv (fun b => b = σ') (Wd G) (AG G)) args s 0 0 (AG G)) 4 0 [(0, vR (5, 0, 0)), (1, vI a1)] [] σ
  unfold F_J7_fill_53178_t5 at hF
  refine r_iconst (v := (0 : Int32)) C dJ7_fill_53178_0 rfl ?_
  refine r_istore_n (ls2 := [(2, vI (0 : Int32)), (0, vR (5, 0, 0)), (1, vI a1)]) C dJ7_fill_53178_1 2 rfl (by decide) rfl ?_
  refine r_aload_n C 1 0 dJ7_fill_53178_2 rfl rfl ?_
  refine r_alen (v := (96 : Int32)) C dJ7_fill_53178_3 rfl (by decide) rfl rfl ?_
  refine r_istore_n (ls2 := [(3, vI (96 : Int32)), (2, vI (0 : Int32)), (0, vR (5, 0, 0)), (1, vI a1)]) C dJ7_fill_53178_4 3 rfl (by decide) rfl ?_
  refine r_drop (ls2 := [(0, vR (5, 0, 0)), (1, vI a1), (2, vI (0 : Int32)), (3, vI (96 : Int32))]) [2, 3, 1, 0] rfl ?_
  refine l_J7_fill_53178_t5_5 C a1 (96 : Int32)  _ _ _ hF
def L_X8_beginAnew_53  : Nat → Int32 → St → Option (Unit × St)
  | 0, _, _ => none
  | n + 1, v2, τ =>
  (if (9 : Int32) ≤ v2 then some ((), τ) else ck (inb v2 9) (nam (uI τ (6, 0, 0) (v2.toNatClampNeg) (vp_nar .boolean (0 : Int32))) fun σ12 => nam (v2 + (1 : Int32)) fun x13 => L_X8_beginAnew_53 n x13 σ12))
def F_X8_beginAnew (a1 : Int32) (σ : St) : Option (Unit × St) :=
  nam (uI σ (2, 0, 0) 4 (if (320 : Int32) < a1 then (320 : Int32) else a1)) fun σ1 => nam (uI σ1 (2, 0, 0) 5 (0 : Int32)) fun σ2 => nam (uI σ2 (2, 0, 0) 6 (0 : Int32)) fun σ3 => nam (uI σ3 (2, 0, 0) 9 (0 : Int32)) fun σ4 => nam (uI σ4 (2, 0, 0) 10 (0 : Int32)) fun σ5 => nam (uI σ5 (2, 0, 0) 11 (0 : Int32)) fun σ6 => bd (F_X5_beginAnew 1 σ6) fun _ σ7 => bd (F_J7_fill_53178_t5 (4 : Int32) σ7) fun _ σ9 => L_X8_beginAnew_53  FU (0 : Int32) σ9 
set_option maxRecDepth 20000 in
set_option maxHeartbeats 4000000 in
theorem l_X8_beginAnew_53 {G : Gx} {p : Program} {l : Launch} {e : Env} {s : State} {m : MethodId} {args : Array Value} {below : List Frame} {meth : Method} {c : Code} (C : Cx G p s m args meth c none 3 RX8 cX8_beginAnew)  {σ' : St}  : ∀ (n : Nat) (v2 : Int32) (τ : St), L_X8_beginAnew_53  n v2 τ = some ((), σ') → Rt G p l e (lvl 2) s m args below meth c 0 0 (MQ below (va_Qv (fun b => b = σ') (Wd G) (AG G)) args s 0 0 (AG G)) 3 53 [(0, vR (2, 0, 0)), (2, vI v2)] [] τ := by
  intro n
  induction n with
  | zero => intro v2 τ hF; cases hF
  | succ n ih =>
    intro v2 τ hF
    unfold L_X8_beginAnew_53 at hF
    refine r_iload_n C 1 2 dX8_beginAnew_53 rfl rfl ?_
    refine r_bipush (v := (9 : Int32)) C dX8_beginAnew_54 rfl ?_
    refine r_icmp_ge C 72 dX8_beginAnew_56 (by decide)  (fun h14 => ?_) (fun h14 => ?_)
    · have hF := if_t h14 hF
      exact r_return C dX8_beginAnew_72 (rv_e hF)
    · have hF := if_f h14 hF
      refine r_aload_n C 0 0 dX8_beginAnew_59 rfl rfl ?_
      refine r_getR (kf := 3) (d2 := (6, 0, 0)) C dX8_beginAnew_60 rfl rfl f_X8 (by decide) t_1_62 rfl rfl ?_
      refine r_iload_n C 1 2 dX8_beginAnew_63 rfl rfl ?_
      refine r_iconst (v := (0 : Int32)) C dX8_beginAnew_64 rfl ?_
      obtain ⟨h11, hF⟩ := ck_e hF
      obtain ⟨σ12, eσ12, hF⟩ := nam_e hF
      refine r_zastore C (v2.toNatClampNeg) dX8_beginAnew_65 rfl h11 rfl eσ12 ?_
      obtain ⟨x13, ex13, hF⟩ := nam_e hF
      refine r_iinc (v := x13) (ls2 := [(2, vI x13), (0, vR (2, 0, 0))]) C 1 dX8_beginAnew_66 rfl ex13.symm (by decide) rfl ?_
      refine r_goto C 53 dX8_beginAnew_69 (by decide) ?_
      refine r_drop (ls2 := [(0, vR (2, 0, 0)), (2, vI x13)]) [1, 0] rfl ?_
      exact ih _ _ hF
set_option maxRecDepth 20000 in
set_option maxHeartbeats 4000000 in
theorem s_X8_beginAnew (G : Gx) (l : Launch) {a1 : Int32} {σ σ' : St}  (hF : F_X8_beginAnew a1 σ = some ((), σ')) : Sp G l yX8_beginAnew cX8_beginAnew 3 none (lvl 2) [vR (2, 0, 0), vI a1] σ (va_Qv (fun b => b = σ') (Wd G) (AG G)) := by
  refine Sp_of (own := RX8) (by decide) rfl (Nat.le_of_ble_eq_true rfl) ?_
  intro p e s m args below meth c C
  show Rt G p l e (lvl 2) s m args below meth c 0 0 (MQ below (va_Qv (fun b => b = σ') (Wd G) (AG G)) args s 0 0 (AG G)) 3 0 [(0, vR (2, 0, 0)), (1, vI a1)] [] σ
  unfold F_X8_beginAnew at hF
  refine r_aload_n C 0 0 dX8_beginAnew_0 rfl rfl ?_
  refine r_iload_n C 1 1 dX8_beginAnew_1 rfl rfl ?_
  refine r_sipush (v := (320 : Int32)) C dX8_beginAnew_2 rfl ?_
  refine r_min C dX8_beginAnew_5 t_2_156 t_2_157 t_1_15 t_2_158 ⟨Nat.le_of_ble_eq_true rfl, Nat.le_of_ble_eq_true rfl⟩ ⟨Nat.zero_le _, Nat.zero_le _⟩ ?_
  obtain ⟨σ1, eσ1, hF⟩ := nam_e hF
  refine r_put (kf := 4) (ty0 := tyX8) C dX8_beginAnew_8 rfl rfl f_X8 tyX8_ok nmX8 (by decide) t_1_63 rfl rfl rfl rfl eσ1 ?_
  refine r_aload_n C 0 0 dX8_beginAnew_11 rfl rfl ?_
  refine r_iconst (v := (0 : Int32)) C dX8_beginAnew_12 rfl ?_
  obtain ⟨σ2, eσ2, hF⟩ := nam_e hF
  refine r_put (kf := 5) (ty0 := tyX8) C dX8_beginAnew_13 rfl rfl f_X8 tyX8_ok nmX8 (by decide) t_1_64 rfl rfl rfl rfl eσ2 ?_
  refine r_aload_n C 0 0 dX8_beginAnew_16 rfl rfl ?_
  refine r_iconst (v := (0 : Int32)) C dX8_beginAnew_17 rfl ?_
  obtain ⟨σ3, eσ3, hF⟩ := nam_e hF
  refine r_put (kf := 6) (ty0 := tyX8) C dX8_beginAnew_18 rfl rfl f_X8 tyX8_ok nmX8 (by decide) t_1_65 rfl rfl rfl rfl eσ3 ?_
  refine r_aload_n C 0 0 dX8_beginAnew_21 rfl rfl ?_
  refine r_iconst (v := (0 : Int32)) C dX8_beginAnew_22 rfl ?_
  obtain ⟨σ4, eσ4, hF⟩ := nam_e hF
  refine r_put (kf := 9) (ty0 := tyX8) C dX8_beginAnew_23 rfl rfl f_X8 tyX8_ok nmX8 (by decide) t_1_68 rfl rfl rfl rfl eσ4 ?_
  refine r_aload_n C 0 0 dX8_beginAnew_26 rfl rfl ?_
  refine r_iconst (v := (0 : Int32)) C dX8_beginAnew_27 rfl ?_
  obtain ⟨σ5, eσ5, hF⟩ := nam_e hF
  refine r_put (kf := 10) (ty0 := tyX8) C dX8_beginAnew_28 rfl rfl f_X8 tyX8_ok nmX8 (by decide) t_1_70 rfl rfl rfl rfl eσ5 ?_
  refine r_aload_n C 0 0 dX8_beginAnew_31 rfl rfl ?_
  refine r_iconst (v := (0 : Int32)) C dX8_beginAnew_32 rfl ?_
  obtain ⟨σ6, eσ6, hF⟩ := nam_e hF
  refine r_put (kf := 11) (ty0 := tyX8) C dX8_beginAnew_33 rfl rfl f_X8 tyX8_ok nmX8 (by decide) t_1_72 rfl rfl rfl rfl eσ6 ?_
  refine r_aload_n C 0 0 dX8_beginAnew_36 rfl rfl ?_
  refine r_getR (kf := 1) (d2 := (3, 1, 0)) C dX8_beginAnew_37 rfl rfl f_X8 (by decide) t_1_58 rfl rfl ?_
  obtain ⟨⟨⟩, σ7, e8, hF⟩ := bd_e hF
  refine r_callV_v (as := []) (st := []) C dX8_beginAnew_40 (s_X5_beginAnew G l e8) rfl rfl rfl t_2_159 t_1_42 t_1_43 t_1_3 t_1_44 m_X5_beginAnew ⟨Nat.le_of_ble_eq_true rfl, Nat.le_of_ble_eq_true rfl⟩ ⟨rfl, rfl⟩ ⟨Nat.zero_le _, Nat.zero_le _⟩ rfl (Nat.le_of_ble_eq_true rfl) ?_
  refine r_aload_n C 0 0 dX8_beginAnew_43 rfl rfl ?_
  refine r_getR (kf := 2) (d2 := (5, 0, 0)) C dX8_beginAnew_44 rfl rfl f_X8 (by decide) t_1_60 rfl rfl ?_
  refine r_iconst (v := (4 : Int32)) C dX8_beginAnew_47 rfl ?_
  obtain ⟨⟨⟩, σ9, e10, hF⟩ := bd_e hF
  refine r_callS_v (as := [vR (5, 0, 0), vI (4 : Int32)]) (st := []) C dX8_beginAnew_48 (s_J7_fill_53178_t5 G l e10) t_2_160 t_1_111 t_1_6 t_1_112 m_J7_fill_53178 ⟨Nat.le_of_ble_eq_true rfl, Nat.le_of_ble_eq_true rfl⟩ ⟨rfl, rfl⟩ ⟨Nat.zero_le _, Nat.zero_le _⟩ rfl (Nat.le_of_ble_eq_true rfl) ?_
  refine r_iconst (v := (0 : Int32)) C dX8_beginAnew_51 rfl ?_
  refine r_istore_n (ls2 := [(2, vI (0 : Int32)), (0, vR (2, 0, 0)), (1, vI a1)]) C dX8_beginAnew_52 2 rfl (by decide) rfl ?_
  refine r_drop (ls2 := [(0, vR (2, 0, 0)), (2, vI (0 : Int32))]) [1, 0] rfl ?_
  refine l_X8_beginAnew_53 C   _ _ _ hF
def F_X8_byteAt (a1 : Int32) (σ : St) : Option (Int32 × St) :=
  (if a1 < 0 then some ((0 : Int32), σ) else (if (σ.1 (2, 0, 0) 4) ≤ a1 then some ((0 : Int32), σ) else (if (320 : Int32) ≤ a1 then some ((0 : Int32), σ) else ck (inb a1 320) (some ((σ.1 (1, 0, 0) (a1.toNatClampNeg)) &&& (255 : Int32), σ)))))
set_option maxRecDepth 20000 in
set_option maxHeartbeats 4000000 in
theorem s_X8_byteAt (G : Gx) (l : Launch) {a1 : Int32} {σ σ' : St} {r : Int32} (hF : F_X8_byteAt a1 σ = some (r, σ')) : Sp G l yX8_byteAt cX8_byteAt 2 (some .int) (lvl 0) [vR (2, 0, 0), vI a1] σ (va_Qi (fun a b => a = r ∧ b = σ') (Wd G) (AG G)) := by
  refine Sp_of (own := RX8) (by decide) rfl (Nat.le_of_ble_eq_true rfl) ?_
  intro p e s m args below meth c C
  show Rt G p l e (lvl 0) s m args below meth c 0 0 (MQ below (va_Qi (fun a b => a = r ∧ b = σ') (Wd G) (AG G)) args s 0 0 (AG G)) 2 0 [(0, vR (2, 0, 0)), (1, vI a1)] [] σ
  unfold F_X8_byteAt at hF
  refine r_iload_n C 1 1 dX8_byteAt_0 rfl rfl ?_
  refine r_if_lt C 34 dX8_byteAt_1 (by decide)  (fun h4 => ?_) (fun h4 => ?_)
  · have hF := if_t h4 hF
    refine r_iconst (v := (0 : Int32)) C dX8_byteAt_34 rfl ?_
    exact r_ireturn C dX8_byteAt_35 (rt_e hF)
  · have hF := if_f h4 hF
    refine r_iload_n C 1 1 dX8_byteAt_4 rfl rfl ?_
    refine r_aload_n C 0 0 dX8_byteAt_5 rfl rfl ?_
    refine r_getI (kf := 4) C dX8_byteAt_6 rfl rfl f_X8 (by decide) t_1_63 rfl ?_
    refine r_icmp_ge C 34 dX8_byteAt_9 (by decide)  (fun h3 => ?_) (fun h3 => ?_)
    · have hF := if_t h3 hF
      refine r_iconst (v := (0 : Int32)) C dX8_byteAt_34 rfl ?_
      exact r_ireturn C dX8_byteAt_35 (rt_e hF)
    · have hF := if_f h3 hF
      refine r_iload_n C 1 1 dX8_byteAt_12 rfl rfl ?_
      refine r_aload_n C 0 0 dX8_byteAt_13 rfl rfl ?_
      refine r_getR (kf := 0) (d2 := (1, 0, 0)) C dX8_byteAt_14 rfl rfl f_X8 (by decide) t_1_56 rfl rfl ?_
      refine r_alen (v := (320 : Int32)) C dX8_byteAt_17 rfl (by decide) rfl rfl ?_
      refine r_icmp_ge C 34 dX8_byteAt_18 (by decide)  (fun h2 => ?_) (fun h2 => ?_)
      · have hF := if_t h2 hF
        refine r_iconst (v := (0 : Int32)) C dX8_byteAt_34 rfl ?_
        exact r_ireturn C dX8_byteAt_35 (rt_e hF)
      · have hF := if_f h2 hF
        refine r_aload_n C 0 0 dX8_byteAt_21 rfl rfl ?_
        refine r_getR (kf := 0) (d2 := (1, 0, 0)) C dX8_byteAt_22 rfl rfl f_X8 (by decide) t_1_56 rfl rfl ?_
        refine r_iload_n C 1 1 dX8_byteAt_25 rfl rfl ?_
        obtain ⟨h1, hF⟩ := ck_e hF
        refine r_baload C (a1.toNatClampNeg) dX8_byteAt_26 rfl h1 rfl ?_
        refine r_sipush (v := (255 : Int32)) C dX8_byteAt_27 rfl ?_
        refine r_iand C dX8_byteAt_30 ?_
        refine r_goto C 35 dX8_byteAt_31 (by decide) ?_
        exact r_ireturn C dX8_byteAt_35 (rt_e hF)
def F_X8_kindOf (a0 : Int32) (σ : St) : Option (Int32 × St) :=
  (if a0 < (97 : Int32) then (if a0 < (48 : Int32) then (if a0 = (59 : Int32) then some ((3 : Int32), σ) else some ((0 : Int32), σ)) else (if (57 : Int32) < a0 then (if a0 = (59 : Int32) then some ((3 : Int32), σ) else some ((0 : Int32), σ)) else some ((2 : Int32), σ))) else (if (122 : Int32) < a0 then (if a0 < (48 : Int32) then (if a0 = (59 : Int32) then some ((3 : Int32), σ) else some ((0 : Int32), σ)) else (if (57 : Int32) < a0 then (if a0 = (59 : Int32) then some ((3 : Int32), σ) else some ((0 : Int32), σ)) else some ((2 : Int32), σ))) else some ((1 : Int32), σ)))
set_option maxRecDepth 20000 in
set_option maxHeartbeats 4000000 in
theorem s_X8_kindOf (G : Gx) (l : Launch) {a0 : Int32} {σ σ' : St} {r : Int32} (hF : F_X8_kindOf a0 σ = some (r, σ')) : Sp G l yX8_kindOf cX8_kindOf 1 (some .int) (lvl 0) [vI a0] σ (va_Qi (fun a b => a = r ∧ b = σ') (Wd G) (AG G)) := by
  refine Sp_of (own := RX8) (by decide) rfl (Nat.le_of_ble_eq_true rfl) ?_
  intro p e s m args below meth c C
  show Rt G p l e (lvl 0) s m args below meth c 0 0 (MQ below (va_Qi (fun a b => a = r ∧ b = σ') (Wd G) (AG G)) args s 0 0 (AG G)) 1 0 [(0, vI a0)] [] σ
  unfold F_X8_kindOf at hF
  refine r_iload_n C 0 0 dX8_kindOf_0 rfl rfl ?_
  refine r_bipush (v := (97 : Int32)) C dX8_kindOf_1 rfl ?_
  refine r_icmp_lt C 14 dX8_kindOf_3 (by decide)  (fun h10 => ?_) (fun h10 => ?_)
  · have hF := if_t h10 hF
    refine r_iload_n C 0 0 dX8_kindOf_14 rfl rfl ?_
    refine r_bipush (v := (48 : Int32)) C dX8_kindOf_15 rfl ?_
    refine r_icmp_lt C 28 dX8_kindOf_17 (by decide)  (fun h4 => ?_) (fun h4 => ?_)
    · have hF := if_t h4 hF
      refine r_iload_n C 0 0 dX8_kindOf_28 rfl rfl ?_
      refine r_bipush (v := (59 : Int32)) C dX8_kindOf_29 rfl ?_
      refine r_icmp_ne C 38 dX8_kindOf_31 (by decide)  (fun h1 => ?_) (fun h1 => ?_)
      · have hF := if_f h1 hF
        refine r_iconst (v := (0 : Int32)) C dX8_kindOf_38 rfl ?_
        exact r_ireturn C dX8_kindOf_39 (rt_e hF)
      · have hF := if_t h1 hF
        refine r_iconst (v := (3 : Int32)) C dX8_kindOf_34 rfl ?_
        refine r_goto C 39 dX8_kindOf_35 (by decide) ?_
        exact r_ireturn C dX8_kindOf_39 (rt_e hF)
    · have hF := if_f h4 hF
      refine r_iload_n C 0 0 dX8_kindOf_20 rfl rfl ?_
      refine r_bipush (v := (57 : Int32)) C dX8_kindOf_21 rfl ?_
      refine r_icmp_gt C 28 dX8_kindOf_23 (by decide)  (fun h3 => ?_) (fun h3 => ?_)
      · have hF := if_t h3 hF
        refine r_iload_n C 0 0 dX8_kindOf_28 rfl rfl ?_
        refine r_bipush (v := (59 : Int32)) C dX8_kindOf_29 rfl ?_
        refine r_icmp_ne C 38 dX8_kindOf_31 (by decide)  (fun h2 => ?_) (fun h2 => ?_)
        · have hF := if_f h2 hF
          refine r_iconst (v := (0 : Int32)) C dX8_kindOf_38 rfl ?_
          exact r_ireturn C dX8_kindOf_39 (rt_e hF)
        · have hF := if_t h2 hF
          refine r_iconst (v := (3 : Int32)) C dX8_kindOf_34 rfl ?_
          refine r_goto C 39 dX8_kindOf_35 (by decide) ?_
          exact r_ireturn C dX8_kindOf_39 (rt_e hF)
      · have hF := if_f h3 hF
        refine r_iconst (v := (2 : Int32)) C dX8_kindOf_26 rfl ?_
        exact r_ireturn C dX8_kindOf_27 (rt_e hF)
  · have hF := if_f h10 hF
    refine r_iload_n C 0 0 dX8_kindOf_6 rfl rfl ?_
    refine r_bipush (v := (122 : Int32)) C dX8_kindOf_7 rfl ?_
    refine r_icmp_gt C 14 dX8_kindOf_9 (by decide)  (fun h9 => ?_) (fun h9 => ?_)
    · have hF := if_t h9 hF
      refine r_iload_n C 0 0 dX8_kindOf_14 rfl rfl ?_
      refine r_bipush (v := (48 : Int32)) C dX8_kindOf_15 rfl ?_
      refine r_icmp_lt C 28 dX8_kindOf_17 (by decide)  (fun h8 => ?_) (fun h8 => ?_)
      · have hF := if_t h8 hF
        refine r_iload_n C 0 0 dX8_kindOf_28 rfl rfl ?_
        refine r_bipush (v := (59 : Int32)) C dX8_kindOf_29 rfl ?_
        refine r_icmp_ne C 38 dX8_kindOf_31 (by decide)  (fun h5 => ?_) (fun h5 => ?_)
        · have hF := if_f h5 hF
          refine r_iconst (v := (0 : Int32)) C dX8_kindOf_38 rfl ?_
          exact r_ireturn C dX8_kindOf_39 (rt_e hF)
        · have hF := if_t h5 hF
          refine r_iconst (v := (3 : Int32)) C dX8_kindOf_34 rfl ?_
          refine r_goto C 39 dX8_kindOf_35 (by decide) ?_
          exact r_ireturn C dX8_kindOf_39 (rt_e hF)
      · have hF := if_f h8 hF
        refine r_iload_n C 0 0 dX8_kindOf_20 rfl rfl ?_
        refine r_bipush (v := (57 : Int32)) C dX8_kindOf_21 rfl ?_
        refine r_icmp_gt C 28 dX8_kindOf_23 (by decide)  (fun h7 => ?_) (fun h7 => ?_)
        · have hF := if_t h7 hF
          refine r_iload_n C 0 0 dX8_kindOf_28 rfl rfl ?_
          refine r_bipush (v := (59 : Int32)) C dX8_kindOf_29 rfl ?_
          refine r_icmp_ne C 38 dX8_kindOf_31 (by decide)  (fun h6 => ?_) (fun h6 => ?_)
          · have hF := if_f h6 hF
            refine r_iconst (v := (0 : Int32)) C dX8_kindOf_38 rfl ?_
            exact r_ireturn C dX8_kindOf_39 (rt_e hF)
          · have hF := if_t h6 hF
            refine r_iconst (v := (3 : Int32)) C dX8_kindOf_34 rfl ?_
            refine r_goto C 39 dX8_kindOf_35 (by decide) ?_
            exact r_ireturn C dX8_kindOf_39 (rt_e hF)
        · have hF := if_f h7 hF
          refine r_iconst (v := (2 : Int32)) C dX8_kindOf_26 rfl ?_
          exact r_ireturn C dX8_kindOf_27 (rt_e hF)
    · have hF := if_f h9 hF
      refine r_iconst (v := (1 : Int32)) C dX8_kindOf_12 rfl ?_
      exact r_ireturn C dX8_kindOf_13 (rt_e hF)
def F_X8_refuse (a1 : Int32) (a2 : Int32) (σ : St) : Option (Unit × St) :=
  (if (σ.1 (2, 0, 0) 10) = 0 then nam (uI σ (2, 0, 0) 10 a1) fun σ1 => nam (uI σ1 (2, 0, 0) 11 a2) fun σ2 => some ((), σ2) else some ((), σ))
set_option maxRecDepth 20000 in
set_option maxHeartbeats 4000000 in
theorem s_X8_refuse (G : Gx) (l : Launch) {a1 : Int32} {a2 : Int32} {σ σ' : St}  (hF : F_X8_refuse a1 a2 σ = some ((), σ')) : Sp G l yX8_refuse cX8_refuse 3 none (lvl 0) [vR (2, 0, 0), vI a1, vI a2] σ (va_Qv (fun b => b = σ') (Wd G) (AG G)) := by
  refine Sp_of (own := RX8) (by decide) rfl (Nat.le_of_ble_eq_true rfl) ?_
  intro p e s m args below meth c C
  show Rt G p l e (lvl 0) s m args below meth c 0 0 (MQ below (va_Qv (fun b => b = σ') (Wd G) (AG G)) args s 0 0 (AG G)) 3 0 [(0, vR (2, 0, 0)), (1, vI a1), (2, vI a2)] [] σ
  unfold F_X8_refuse at hF
  refine r_aload_n C 0 0 dX8_refuse_0 rfl rfl ?_
  refine r_getI (kf := 10) C dX8_refuse_1 rfl rfl f_X8 (by decide) t_1_70 rfl ?_
  refine r_if_ne C 17 dX8_refuse_4 (by decide)  (fun h3 => ?_) (fun h3 => ?_)
  · have hF := if_f h3 hF
    exact r_return C dX8_refuse_17 (rv_e hF)
  · have hF := if_t h3 hF
    refine r_aload_n C 0 0 dX8_refuse_7 rfl rfl ?_
    refine r_iload_n C 1 1 dX8_refuse_8 rfl rfl ?_
    obtain ⟨σ1, eσ1, hF⟩ := nam_e hF
    refine r_put (kf := 10) (ty0 := tyX8) C dX8_refuse_9 rfl rfl f_X8 tyX8_ok nmX8 (by decide) t_1_70 rfl rfl rfl rfl eσ1 ?_
    refine r_aload_n C 0 0 dX8_refuse_12 rfl rfl ?_
    refine r_iload_n C 2 2 dX8_refuse_13 rfl rfl ?_
    obtain ⟨σ2, eσ2, hF⟩ := nam_e hF
    refine r_put (kf := 11) (ty0 := tyX8) C dX8_refuse_14 rfl rfl f_X8 tyX8_ok nmX8 (by decide) t_1_72 rfl rfl rfl rfl eσ2 ?_
    exact r_return C dX8_refuse_17 (rv_e hF)
def L_X8_readToken_0  : Nat → St → (St → Option (Unit × St)) → Option (Unit × St)
  | 0, _, _ => none
  | n + 1, τ, kx37 =>
  (if (τ.1 (2, 0, 0) 4) ≤ (τ.1 (2, 0, 0) 5) then kx37  τ else bd (F_X8_byteAt (τ.1 (2, 0, 0) 5) τ) fun r2 σ1 => (if r2 = (32 : Int32) then nam (uI σ1 (2, 0, 0) 5 ((σ1.1 (2, 0, 0) 5) + (1 : Int32))) fun σ4 => L_X8_readToken_0 n  σ4 kx37 else kx37  σ1))
def L_X8_readToken_82  : Nat → St → (St → Option (Unit × St)) → Option (Unit × St)
  | 0, _, _ => none
  | n + 1, τ, kx132 =>
  (if (τ.1 (2, 0, 0) 4) ≤ (τ.1 (2, 0, 0) 5) then kx132  τ else (if (τ.1 (2, 0, 0) 7) = (3 : Int32) then kx132  τ else bd (F_X8_byteAt (τ.1 (2, 0, 0) 5) τ) fun r18 σ17 => bd (F_X8_kindOf r18 σ17) fun r21 σ20 => (if r21 = (σ20.1 (2, 0, 0) 7) then nam (uI σ20 (2, 0, 0) 5 ((σ20.1 (2, 0, 0) 5) + (1 : Int32))) fun σ23 => L_X8_readToken_82 n  σ23 kx132 else kx132  σ20)))
def F_X8_readToken  (σ : St) : Option (Unit × St) :=
  L_X8_readToken_0  FU  σ (fun  (σ7 : St) => nam (uI σ7 (2, 0, 0) 8 (σ7.1 (2, 0, 0) 5)) fun σ8 => bd (F_X8_byteAt (σ8.1 (2, 0, 0) 8) σ8) fun r10 σ9 => bd (F_X8_kindOf r10 σ9) fun r13 σ12 => nam (uI σ12 (2, 0, 0) 7 r13) fun σ15 => (if (σ15.1 (2, 0, 0) 8) < (σ15.1 (2, 0, 0) 4) then nam (uI σ15 (2, 0, 0) 5 ((σ15.1 (2, 0, 0) 5) + (1 : Int32))) fun σ16 => L_X8_readToken_82  FU  σ16 (fun  (σ27 : St) => (if (σ27.1 (2, 0, 0) 7) = 0 then bd (F_X8_refuse (1 : Int32) (σ27.1 (2, 0, 0) 8) σ27) fun _ σ28 => some ((), σ28) else (if (σ27.1 (2, 0, 0) 7) = (2 : Int32) then (if ((σ27.1 (2, 0, 0) 5) - (σ27.1 (2, 0, 0) 8)) ≤ (2 : Int32) then some ((), σ27) else bd (F_X8_refuse (1 : Int32) (σ27.1 (2, 0, 0) 8) σ27) fun _ σ30 => some ((), σ30)) else some ((), σ27)))) else some ((), σ15)))
set_option maxRecDepth 20000 in
set_option maxHeartbeats 4000000 in
theorem l_X8_readToken_0 {G : Gx} {p : Program} {l : Launch} {e : Env} {s : State} {m : MethodId} {args : Array Value} {below : List Frame} {meth : Method} {c : Code} (C : Cx G p s m args meth c none 1 RX8 cX8_readToken)  {σ' : St}  (kx37 : St → Option (Unit × St)) (hkx37 : ∀  (τ : St), kx37  τ = some ((), σ') → Rt G p l e (lvl 1) s m args below meth c 0 0 (MQ below (va_Qv (fun b => b = σ') (Wd G) (AG G)) args s 0 0 (AG G)) 1 37 [(0, vR (2, 0, 0))] [] τ) : ∀ (n : Nat)  (τ : St), L_X8_readToken_0  n  τ kx37 = some ((), σ') → Rt G p l e (lvl 1) s m args below meth c 0 0 (MQ below (va_Qv (fun b => b = σ') (Wd G) (AG G)) args s 0 0 (AG G)) 1 0 [(0, vR (2, 0, 0))] [] τ := by
  intro n
  induction n with
  | zero => intro  τ hF; cases hF
  | succ n ih =>
    intro  τ hF
    unfold L_X8_readToken_0 at hF
    refine r_aload_n C 0 0 dX8_readToken_0 rfl rfl ?_
    refine r_getI (kf := 5) C dX8_readToken_1 rfl rfl f_X8 (by decide) t_1_64 rfl ?_
    refine r_aload_n C 0 0 dX8_readToken_4 rfl rfl ?_
    refine r_getI (kf := 4) C dX8_readToken_5 rfl rfl f_X8 (by decide) t_1_63 rfl ?_
    refine r_icmp_ge C 37 dX8_readToken_8 (by decide)  (fun h6 => ?_) (fun h6 => ?_)
    · have hF := if_t h6 hF
      exact hkx37 _ hF
    · have hF := if_f h6 hF
      refine r_aload_n C 0 0 dX8_readToken_11 rfl rfl ?_
      refine r_aload_n C 0 0 dX8_readToken_12 rfl rfl ?_
      refine r_getI (kf := 5) C dX8_readToken_13 rfl rfl f_X8 (by decide) t_1_64 rfl ?_
      obtain ⟨r2, σ1, e3, hF⟩ := bd_e hF
      refine r_callV_i (as := [vI (τ.1 (2, 0, 0) 5)]) (st := []) C dX8_readToken_16 (s_X8_byteAt G l e3) rfl rfl rfl t_2_165 t_2_167 t_s_2 t_1_2 t_2_168 m_X8_byteAt ⟨Nat.le_of_ble_eq_true rfl, Nat.le_of_ble_eq_true rfl⟩ ⟨rfl, rfl⟩ ⟨Nat.zero_le _, Nat.zero_le _⟩ rfl (Nat.le_of_ble_eq_true rfl) ?_
      refine r_bipush (v := (32 : Int32)) C dX8_readToken_19 rfl ?_
      refine r_icmp_ne C 37 dX8_readToken_21 (by decide)  (fun h5 => ?_) (fun h5 => ?_)
      · have hF := if_f h5 hF
        exact hkx37 _ hF
      · have hF := if_t h5 hF
        refine r_aload_n C 0 0 dX8_readToken_24 rfl rfl ?_
        refine r_dup_r C dX8_readToken_25 ?_
        refine r_getI (kf := 5) C dX8_readToken_26 rfl rfl f_X8 (by decide) t_1_64 rfl ?_
        refine r_iconst (v := (1 : Int32)) C dX8_readToken_29 rfl ?_
        refine r_iadd C dX8_readToken_30 ?_
        obtain ⟨σ4, eσ4, hF⟩ := nam_e hF
        refine r_put (kf := 5) (ty0 := tyX8) C dX8_readToken_31 rfl rfl f_X8 tyX8_ok nmX8 (by decide) t_1_64 rfl rfl rfl rfl eσ4 ?_
        refine r_goto C 0 dX8_readToken_34 (by decide) ?_
        exact ih _ hF
set_option maxRecDepth 20000 in
set_option maxHeartbeats 4000000 in
theorem l_X8_readToken_82 {G : Gx} {p : Program} {l : Launch} {e : Env} {s : State} {m : MethodId} {args : Array Value} {below : List Frame} {meth : Method} {c : Code} (C : Cx G p s m args meth c none 1 RX8 cX8_readToken)  {σ' : St}  (kx132 : St → Option (Unit × St)) (hkx132 : ∀  (τ : St), kx132  τ = some ((), σ') → Rt G p l e (lvl 1) s m args below meth c 0 0 (MQ below (va_Qv (fun b => b = σ') (Wd G) (AG G)) args s 0 0 (AG G)) 1 132 [(0, vR (2, 0, 0))] [] τ) : ∀ (n : Nat)  (τ : St), L_X8_readToken_82  n  τ kx132 = some ((), σ') → Rt G p l e (lvl 1) s m args below meth c 0 0 (MQ below (va_Qv (fun b => b = σ') (Wd G) (AG G)) args s 0 0 (AG G)) 1 82 [(0, vR (2, 0, 0))] [] τ := by
  intro n
  induction n with
  | zero => intro  τ hF; cases hF
  | succ n ih =>
    intro  τ hF
    unfold L_X8_readToken_82 at hF
    refine r_aload_n C 0 0 dX8_readToken_82 rfl rfl ?_
    refine r_getI (kf := 5) C dX8_readToken_83 rfl rfl f_X8 (by decide) t_1_64 rfl ?_
    refine r_aload_n C 0 0 dX8_readToken_86 rfl rfl ?_
    refine r_getI (kf := 4) C dX8_readToken_87 rfl rfl f_X8 (by decide) t_1_63 rfl ?_
    refine r_icmp_ge C 132 dX8_readToken_90 (by decide)  (fun h26 => ?_) (fun h26 => ?_)
    · have hF := if_t h26 hF
      exact hkx132 _ hF
    · have hF := if_f h26 hF
      refine r_aload_n C 0 0 dX8_readToken_93 rfl rfl ?_
      refine r_getI (kf := 7) C dX8_readToken_94 rfl rfl f_X8 (by decide) t_1_66 rfl ?_
      refine r_iconst (v := (3 : Int32)) C dX8_readToken_97 rfl ?_
      refine r_icmp_eq C 132 dX8_readToken_98 (by decide)  (fun h25 => ?_) (fun h25 => ?_)
      · have hF := if_t h25 hF
        exact hkx132 _ hF
      · have hF := if_f h25 hF
        refine r_aload_n C 0 0 dX8_readToken_101 rfl rfl ?_
        refine r_aload_n C 0 0 dX8_readToken_102 rfl rfl ?_
        refine r_getI (kf := 5) C dX8_readToken_103 rfl rfl f_X8 (by decide) t_1_64 rfl ?_
        obtain ⟨r18, σ17, e19, hF⟩ := bd_e hF
        refine r_callV_i (as := [vI (τ.1 (2, 0, 0) 5)]) (st := []) C dX8_readToken_106 (s_X8_byteAt G l e19) rfl rfl rfl t_2_165 t_2_167 t_s_2 t_1_2 t_2_168 m_X8_byteAt ⟨Nat.le_of_ble_eq_true rfl, Nat.le_of_ble_eq_true rfl⟩ ⟨rfl, rfl⟩ ⟨Nat.zero_le _, Nat.zero_le _⟩ rfl (Nat.le_of_ble_eq_true rfl) ?_
        obtain ⟨r21, σ20, e22, hF⟩ := bd_e hF
        refine r_callS_i (as := [vI r18]) (st := []) C dX8_readToken_109 (s_X8_kindOf G l e22) t_2_169 t_2_170 t_1_2 t_2_171 m_X8_kindOf ⟨Nat.le_of_ble_eq_true rfl, Nat.le_of_ble_eq_true rfl⟩ ⟨rfl, rfl⟩ ⟨Nat.zero_le _, Nat.zero_le _⟩ rfl (Nat.le_of_ble_eq_true rfl) ?_
        refine r_aload_n C 0 0 dX8_readToken_112 rfl rfl ?_
        refine r_getI (kf := 7) C dX8_readToken_113 rfl rfl f_X8 (by decide) t_1_66 rfl ?_
        refine r_icmp_ne C 132 dX8_readToken_116 (by decide)  (fun h24 => ?_) (fun h24 => ?_)
        · have hF := if_f h24 hF
          exact hkx132 _ hF
        · have hF := if_t h24 hF
          refine r_aload_n C 0 0 dX8_readToken_119 rfl rfl ?_
          refine r_dup_r C dX8_readToken_120 ?_
          refine r_getI (kf := 5) C dX8_readToken_121 rfl rfl f_X8 (by decide) t_1_64 rfl ?_
          refine r_iconst (v := (1 : Int32)) C dX8_readToken_124 rfl ?_
          refine r_iadd C dX8_readToken_125 ?_
          obtain ⟨σ23, eσ23, hF⟩ := nam_e hF
          refine r_put (kf := 5) (ty0 := tyX8) C dX8_readToken_126 rfl rfl f_X8 tyX8_ok nmX8 (by decide) t_1_64 rfl rfl rfl rfl eσ23 ?_
          refine r_goto C 82 dX8_readToken_129 (by decide) ?_
          exact ih _ hF
set_option maxRecDepth 20000 in
set_option maxHeartbeats 4000000 in
theorem s_X8_readToken (G : Gx) (l : Launch)  {σ σ' : St}  (hF : F_X8_readToken  σ = some ((), σ')) : Sp G l yX8_readToken cX8_readToken 1 none (lvl 1) [vR (2, 0, 0)] σ (va_Qv (fun b => b = σ') (Wd G) (AG G)) := by
  refine Sp_of (own := RX8) (by decide) rfl (Nat.le_of_ble_eq_true rfl) ?_
  intro p e s m args below meth c C
  show Rt G p l e (lvl 1) s m args below meth c 0 0 (MQ below (va_Qv (fun b => b = σ') (Wd G) (AG G)) args s 0 0 (AG G)) 1 0 [(0, vR (2, 0, 0))] [] σ
  unfold F_X8_readToken at hF
  refine l_X8_readToken_0 C  _ ?_ _ _ hF
  · intro  σ7 hF
    refine r_aload_n C 0 0 dX8_readToken_37 rfl rfl ?_
    refine r_aload_n C 0 0 dX8_readToken_38 rfl rfl ?_
    refine r_getI (kf := 5) C dX8_readToken_39 rfl rfl f_X8 (by decide) t_1_64 rfl ?_
    obtain ⟨σ8, eσ8, hF⟩ := nam_e hF
    refine r_put (kf := 8) (ty0 := tyX8) C dX8_readToken_42 rfl rfl f_X8 tyX8_ok nmX8 (by decide) t_1_67 rfl rfl rfl rfl eσ8 ?_
    refine r_aload_n C 0 0 dX8_readToken_45 rfl rfl ?_
    refine r_aload_n C 0 0 dX8_readToken_46 rfl rfl ?_
    refine r_aload_n C 0 0 dX8_readToken_47 rfl rfl ?_
    refine r_getI (kf := 8) C dX8_readToken_48 rfl rfl f_X8 (by decide) t_1_67 rfl ?_
    obtain ⟨r10, σ9, e11, hF⟩ := bd_e hF
    refine r_callV_i (as := [vI (σ8.1 (2, 0, 0) 8)]) (st := [vR (2, 0, 0)]) C dX8_readToken_51 (s_X8_byteAt G l e11) rfl rfl rfl t_2_165 t_2_167 t_s_2 t_1_2 t_2_168 m_X8_byteAt ⟨Nat.le_of_ble_eq_true rfl, Nat.le_of_ble_eq_true rfl⟩ ⟨rfl, rfl⟩ ⟨Nat.zero_le _, Nat.zero_le _⟩ rfl (Nat.le_of_ble_eq_true rfl) ?_
    obtain ⟨r13, σ12, e14, hF⟩ := bd_e hF
    refine r_callS_i (as := [vI r10]) (st := [vR (2, 0, 0)]) C dX8_readToken_54 (s_X8_kindOf G l e14) t_2_169 t_2_170 t_1_2 t_2_171 m_X8_kindOf ⟨Nat.le_of_ble_eq_true rfl, Nat.le_of_ble_eq_true rfl⟩ ⟨rfl, rfl⟩ ⟨Nat.zero_le _, Nat.zero_le _⟩ rfl (Nat.le_of_ble_eq_true rfl) ?_
    obtain ⟨σ15, eσ15, hF⟩ := nam_e hF
    refine r_put (kf := 7) (ty0 := tyX8) C dX8_readToken_57 rfl rfl f_X8 tyX8_ok nmX8 (by decide) t_1_66 rfl rfl rfl rfl eσ15 ?_
    refine r_aload_n C 0 0 dX8_readToken_60 rfl rfl ?_
    refine r_getI (kf := 8) C dX8_readToken_61 rfl rfl f_X8 (by decide) t_1_67 rfl ?_
    refine r_aload_n C 0 0 dX8_readToken_64 rfl rfl ?_
    refine r_getI (kf := 4) C dX8_readToken_65 rfl rfl f_X8 (by decide) t_1_63 rfl ?_
    refine r_icmp_lt C 72 dX8_readToken_68 (by decide)  (fun h35 => ?_) (fun h35 => ?_)
    · have hF := if_t h35 hF
      refine r_aload_n C 0 0 dX8_readToken_72 rfl rfl ?_
      refine r_dup_r C dX8_readToken_73 ?_
      refine r_getI (kf := 5) C dX8_readToken_74 rfl rfl f_X8 (by decide) t_1_64 rfl ?_
      refine r_iconst (v := (1 : Int32)) C dX8_readToken_77 rfl ?_
      refine r_iadd C dX8_readToken_78 ?_
      obtain ⟨σ16, eσ16, hF⟩ := nam_e hF
      refine r_put (kf := 5) (ty0 := tyX8) C dX8_readToken_79 rfl rfl f_X8 tyX8_ok nmX8 (by decide) t_1_64 rfl rfl rfl rfl eσ16 ?_
      refine l_X8_readToken_82 C  _ ?_ _ _ hF
      · intro  σ27 hF
        refine r_aload_n C 0 0 dX8_readToken_132 rfl rfl ?_
        refine r_getI (kf := 7) C dX8_readToken_133 rfl rfl f_X8 (by decide) t_1_66 rfl ?_
        refine r_if_eq C 160 dX8_readToken_136 (by decide)  (fun h34 => ?_) (fun h34 => ?_)
        · have hF := if_t h34 hF
          refine r_aload_n C 0 0 dX8_readToken_160 rfl rfl ?_
          refine r_iconst (v := (1 : Int32)) C dX8_readToken_161 rfl ?_
          refine r_aload_n C 0 0 dX8_readToken_162 rfl rfl ?_
          refine r_getI (kf := 8) C dX8_readToken_163 rfl rfl f_X8 (by decide) t_1_67 rfl ?_
          obtain ⟨⟨⟩, σ28, e29, hF⟩ := bd_e hF
          refine r_callV_v (as := [vI (1 : Int32), vI (σ27.1 (2, 0, 0) 8)]) (st := []) C dX8_readToken_166 (s_X8_refuse G l e29) rfl rfl rfl t_2_172 t_2_174 t_s_3 t_1_2 t_2_175 m_X8_refuse ⟨Nat.le_of_ble_eq_true rfl, Nat.le_of_ble_eq_true rfl⟩ ⟨rfl, rfl⟩ ⟨Nat.zero_le _, Nat.zero_le _⟩ rfl (Nat.le_of_ble_eq_true rfl) ?_
          exact r_return C dX8_readToken_169 (rv_e hF)
        · have hF := if_f h34 hF
          refine r_aload_n C 0 0 dX8_readToken_139 rfl rfl ?_
          refine r_getI (kf := 7) C dX8_readToken_140 rfl rfl f_X8 (by decide) t_1_66 rfl ?_
          refine r_iconst (v := (2 : Int32)) C dX8_readToken_143 rfl ?_
          refine r_icmp_ne C 169 dX8_readToken_144 (by decide)  (fun h33 => ?_) (fun h33 => ?_)
          · have hF := if_f h33 hF
            exact r_return C dX8_readToken_169 (rv_e hF)
          · have hF := if_t h33 hF
            refine r_aload_n C 0 0 dX8_readToken_147 rfl rfl ?_
            refine r_getI (kf := 5) C dX8_readToken_148 rfl rfl f_X8 (by decide) t_1_64 rfl ?_
            refine r_aload_n C 0 0 dX8_readToken_151 rfl rfl ?_
            refine r_getI (kf := 8) C dX8_readToken_152 rfl rfl f_X8 (by decide) t_1_67 rfl ?_
            refine r_isub C dX8_readToken_155 ?_
            refine r_iconst (v := (2 : Int32)) C dX8_readToken_156 rfl ?_
            refine r_icmp_le C 169 dX8_readToken_157 (by decide)  (fun h32 => ?_) (fun h32 => ?_)
            · have hF := if_t h32 hF
              exact r_return C dX8_readToken_169 (rv_e hF)
            · have hF := if_f h32 hF
              refine r_aload_n C 0 0 dX8_readToken_160 rfl rfl ?_
              refine r_iconst (v := (1 : Int32)) C dX8_readToken_161 rfl ?_
              refine r_aload_n C 0 0 dX8_readToken_162 rfl rfl ?_
              refine r_getI (kf := 8) C dX8_readToken_163 rfl rfl f_X8 (by decide) t_1_67 rfl ?_
              obtain ⟨⟨⟩, σ30, e31, hF⟩ := bd_e hF
              refine r_callV_v (as := [vI (1 : Int32), vI (σ27.1 (2, 0, 0) 8)]) (st := []) C dX8_readToken_166 (s_X8_refuse G l e31) rfl rfl rfl t_2_172 t_2_174 t_s_3 t_1_2 t_2_175 m_X8_refuse ⟨Nat.le_of_ble_eq_true rfl, Nat.le_of_ble_eq_true rfl⟩ ⟨rfl, rfl⟩ ⟨Nat.zero_le _, Nat.zero_le _⟩ rfl (Nat.le_of_ble_eq_true rfl) ?_
              exact r_return C dX8_readToken_169 (rv_e hF)
    · have hF := if_f h35 hF
      exact r_return C dX8_readToken_71 (rv_e hF)
def F_J0_coder_7d493 (q0 : Nat) (σ : St) : Option (Int32 × St) :=
  (if (1 : Int32) = 0 then some ((1 : Int32), σ) else ck (decide (q0 < 11)) (some ((0 : Int32), σ)))
set_option maxRecDepth 20000 in
set_option maxHeartbeats 4000000 in
theorem s_J0_coder_7d493 (G : Gx) (l : Launch) {q0 : Nat} {σ σ' : St} {r : Int32} (hF : F_J0_coder_7d493 q0 σ = some (r, σ')) : Sp G l yJ0_coder_7d493 cJ0_coder_7d493 1 (some .byte) (lvl 0) [vR (120, q0, 0)] σ (va_Qi (fun a b => a = r ∧ b = σ') (Wd G) (AG G)) := by
  refine Sp_of (own := RJ0) (by decide) rfl (Nat.le_of_ble_eq_true rfl) ?_
  intro p e s m args below meth c C
  show Rt G p l e (lvl 0) s m args below meth c 0 0 (MQ below (va_Qi (fun a b => a = r ∧ b = σ') (Wd G) (AG G)) args s 0 0 (AG G)) 1 0 [(0, vR (120, q0, 0))] [] σ
  unfold F_J0_coder_7d493 at hF
  refine r_getsCS C dJ0_coder_7d493_0 t_2_189 ?_
  refine r_if_eq C 13 dJ0_coder_7d493_3 (by decide)  (fun h2 => ?_) (fun h2 => ?_)
  · have hF := if_t h2 hF
    refine r_iconst (v := (1 : Int32)) C dJ0_coder_7d493_13 rfl ?_
    exact r_zreturn C dJ0_coder_7d493_14 rfl (rt_e hF)
  · have hF := if_f h2 hF
    refine r_aload_n C 0 0 dJ0_coder_7d493_6 rfl rfl ?_
    obtain ⟨h1, hF⟩ := ck_e hF
    refine r_strC C dJ0_coder_7d493_7 t_7_18 (n11 h1) ?_
    refine r_goto C 14 dJ0_coder_7d493_10 (by decide) ?_
    exact r_zreturn C dJ0_coder_7d493_14 rfl (rt_e hF)
def F_J0_length_8abf5 (q0 : Nat) (σ : St) : Option (Int32 × St) :=
  ck (decide (q0 < 11)) (ck (decide (q0 < 11)) (ck (decide (q0 < 11)) (bd (F_J0_coder_7d493 q0 σ) fun r5 σ3 => some ((Int32.ofNat (stLen.getD q0 0)) >>> (r5 &&& 31), σ3))))
set_option maxRecDepth 20000 in
set_option maxHeartbeats 4000000 in
theorem s_J0_length_8abf5 (G : Gx) (l : Launch) {q0 : Nat} {σ σ' : St} {r : Int32} (hF : F_J0_length_8abf5 q0 σ = some (r, σ')) : Sp G l yJ0_length_8abf5 cJ0_length_8abf5 1 (some .int) (lvl 1) [vR (120, q0, 0)] σ (va_Qi (fun a b => a = r ∧ b = σ') (Wd G) (AG G)) := by
  refine Sp_of (own := RJ0) (by decide) rfl (Nat.le_of_ble_eq_true rfl) ?_
  intro p e s m args below meth c C
  show Rt G p l e (lvl 1) s m args below meth c 0 0 (MQ below (va_Qi (fun a b => a = r ∧ b = σ') (Wd G) (AG G)) args s 0 0 (AG G)) 1 0 [(0, vR (120, q0, 0))] [] σ
  unfold F_J0_length_8abf5 at hF
  refine r_aload_n C 0 0 dJ0_length_8abf5_0 rfl rfl ?_
  obtain ⟨h1, hF⟩ := ck_e hF
  refine r_strV C dJ0_length_8abf5_1 t_7_17 (n11 h1) ?_
  obtain ⟨h2, hF⟩ := ck_e hF
  refine r_alenS C dJ0_length_8abf5_4 (n11 h2) ?_
  refine r_aload_n C 0 0 dJ0_length_8abf5_5 rfl rfl ?_
  obtain ⟨h4, hF⟩ := ck_e hF
  obtain ⟨r5, σ3, e6, hF⟩ := bd_e hF
  refine r_callX_i (as := []) (st := [vI (Int32.ofNat (stLen.getD q0 0))]) C dJ0_length_8abf5_6 (s_J0_coder_7d493 G l e6) (n11 h4) t_2_185 t_2_186 t_2_187 t_1_16 t_2_188 m_J0_coder_7d493 ⟨Nat.le_of_ble_eq_true rfl, Nat.le_of_ble_eq_true rfl⟩ ⟨rfl, rfl⟩ ⟨Nat.zero_le _, Nat.zero_le _⟩ rfl (Nat.le_of_ble_eq_true rfl) ?_
  refine r_ishr C dJ0_length_8abf5_9 ?_
  exact r_ireturn C dJ0_length_8abf5_10 (rt_e hF)
def F_J0_isLatin1_aae02 (q0 : Nat) (σ : St) : Option (Int32 × St) :=
  (if (1 : Int32) = 0 then some ((0 : Int32), σ) else ck (decide (q0 < 11)) ((if (0 : Int32) = 0 then some ((1 : Int32), σ) else some ((0 : Int32), σ))))
set_option maxRecDepth 20000 in
set_option maxHeartbeats 4000000 in
theorem s_J0_isLatin1_aae02 (G : Gx) (l : Launch) {q0 : Nat} {σ σ' : St} {r : Int32} (hF : F_J0_isLatin1_aae02 q0 σ = some (r, σ')) : Sp G l yJ0_isLatin1_aae02 cJ0_isLatin1_aae02 1 (some .boolean) (lvl 0) [vR (120, q0, 0)] σ (va_Qi (fun a b => a = r ∧ b = σ') (Wd G) (AG G)) := by
  refine Sp_of (own := RJ0) (by decide) rfl (Nat.le_of_ble_eq_true rfl) ?_
  intro p e s m args below meth c C
  show Rt G p l e (lvl 0) s m args below meth c 0 0 (MQ below (va_Qi (fun a b => a = r ∧ b = σ') (Wd G) (AG G)) args s 0 0 (AG G)) 1 0 [(0, vR (120, q0, 0))] [] σ
  unfold F_J0_isLatin1_aae02 at hF
  refine r_getsCS C dJ0_isLatin1_aae02_0 t_2_189 ?_
  refine r_if_eq C 17 dJ0_isLatin1_aae02_3 (by decide)  (fun h3 => ?_) (fun h3 => ?_)
  · have hF := if_t h3 hF
    refine r_iconst (v := (0 : Int32)) C dJ0_isLatin1_aae02_17 rfl ?_
    exact r_zreturn C dJ0_isLatin1_aae02_18 (nar_z (Or.inl rfl)) (rt_e hF)
  · have hF := if_f h3 hF
    refine r_aload_n C 0 0 dJ0_isLatin1_aae02_6 rfl rfl ?_
    obtain ⟨h1, hF⟩ := ck_e hF
    refine r_strC C dJ0_isLatin1_aae02_7 t_7_18 (n11 h1) ?_
    refine r_if_ne C 17 dJ0_isLatin1_aae02_10 (by decide)  (fun h2 => ?_) (fun h2 => ?_)
    · have hF := if_f h2 hF
      refine r_iconst (v := (0 : Int32)) C dJ0_isLatin1_aae02_17 rfl ?_
      exact r_zreturn C dJ0_isLatin1_aae02_18 (nar_z (Or.inl rfl)) (rt_e hF)
    · have hF := if_t h2 hF
      refine r_iconst (v := (1 : Int32)) C dJ0_isLatin1_aae02_13 rfl ?_
      refine r_goto C 18 dJ0_isLatin1_aae02_14 (by decide) ?_
      exact r_zreturn C dJ0_isLatin1_aae02_18 (nar_z (Or.inr rfl)) (rt_e hF)
def F_J3_checkIndex_8e157 (a0 : Int32) (a1 : Int32) (σ : St) : Option (Int32 × St) :=
  (if a0 < 0 then none else (if a0 < a1 then some (a0, σ) else none))
set_option maxRecDepth 20000 in
set_option maxHeartbeats 4000000 in
theorem s_J3_checkIndex_8e157 (G : Gx) (l : Launch) {a0 : Int32} {a1 : Int32} {o2 : Value} (ho2 : ¬ o2.category = 2) {σ σ' : St} {r : Int32} (hF : F_J3_checkIndex_8e157 a0 a1 σ = some (r, σ')) : Sp G l yJ3_checkIndex_8e157 cJ3_checkIndex_8e157 3 (some .int) (lvl 0) [vI a0, vI a1, vO o2] σ (va_Qi (fun a b => a = r ∧ b = σ') (Wd G) (AG G)) := by
  refine Sp_of (own := RJ3) (by decide) rfl (by simp [lg_sl, tv, cat_i, ho2]) ?_
  intro p e s m args below meth c C
  show Rt G p l e (lvl 0) s m args below meth c 0 0 (MQ below (va_Qi (fun a b => a = r ∧ b = σ') (Wd G) (AG G)) args s 0 0 (AG G)) 3 0 [(0, vI a0), (1, vI a1), (2, vO o2)] [] σ
  unfold F_J3_checkIndex_8e157 at hF
  refine r_iload_n C 0 0 dJ3_checkIndex_8e157_0 rfl rfl ?_
  refine r_if_lt C 9 dJ3_checkIndex_8e157_1 (by decide)  (fun h2 => ?_) (fun h2 => ?_)
  · have hF := if_t h2 hF
    cases hF
  · have hF := if_f h2 hF
    refine r_iload_n C 0 0 dJ3_checkIndex_8e157_4 rfl rfl ?_
    refine r_iload_n C 1 1 dJ3_checkIndex_8e157_5 rfl rfl ?_
    refine r_icmp_lt C 16 dJ3_checkIndex_8e157_6 (by decide)  (fun h1 => ?_) (fun h1 => ?_)
    · have hF := if_t h1 hF
      refine r_iload_n C 0 0 dJ3_checkIndex_8e157_16 rfl rfl ?_
      exact r_ireturn C dJ3_checkIndex_8e157_17 (rt_e hF)
    · have hF := if_f h1 hF
      cases hF
def F_J0_checkIndex_df160 (a0 : Int32) (a1 : Int32) (σ : St) : Option (Unit × St) :=
  bd (F_J3_checkIndex_8e157 a0 a1 σ) fun r2 σ1 => some ((), σ1)
set_option maxRecDepth 20000 in
set_option maxHeartbeats 4000000 in
theorem s_J0_checkIndex_df160 (G : Gx) (l : Launch) {a0 : Int32} {a1 : Int32} {σ σ' : St}  (hF : F_J0_checkIndex_df160 a0 a1 σ = some ((), σ')) : Sp G l yJ0_checkIndex_df160 cJ0_checkIndex_df160 2 none (lvl 1) [vI a0, vI a1] σ (va_Qv (fun b => b = σ') (Wd G) (AG G)) := by
  refine Sp_of (own := RJ0) (by decide) rfl (Nat.le_of_ble_eq_true rfl) ?_
  intro p e s m args below meth c C
  show Rt G p l e (lvl 1) s m args below meth c 0 0 (MQ below (va_Qv (fun b => b = σ') (Wd G) (AG G)) args s 0 0 (AG G)) 2 0 [(0, vI a0), (1, vI a1)] [] σ
  unfold F_J0_checkIndex_df160 at hF
  refine r_iload_n C 0 0 dJ0_checkIndex_df160_0 rfl rfl ?_
  refine r_iload_n C 1 1 dJ0_checkIndex_df160_1 rfl rfl ?_
  refine r_getsFm C dJ0_checkIndex_df160_2 t_2_205 ?_
  obtain ⟨r2, σ1, e3, hF⟩ := bd_e hF
  refine r_callS_i (as := [vI a0, vI a1, vO (G.2.2.2.2.2)]) (st := []) C dJ0_checkIndex_df160_5 (s_J3_checkIndex_8e157 G l C.2.2.2.2.2.2.2.1.2.2.2.1.2 e3) t_2_207 t_2_208 t_1_18 t_2_209 m_J3_checkIndex_8e157 ⟨Nat.le_of_ble_eq_true rfl, Nat.le_of_ble_eq_true rfl⟩ ⟨rfl, rfl⟩ ⟨Nat.zero_le _, Nat.zero_le _⟩ rfl (Nat.le_of_ble_eq_true rfl) ?_
  refine r_pop_i C dJ0_checkIndex_df160_8 ?_
  exact r_return C dJ0_checkIndex_df160_9 (rv_e hF)
def F_J1_charAt_3b067_t121 (q0 : Nat) (a1 : Int32) (σ : St) : Option (Int32 × St) :=
  ck (decide (q0 < 11)) (bd (F_J0_checkIndex_df160 a1 (Int32.ofNat (stLen.getD q0 0)) σ) fun _ σ2 => ck (decide (q0 < 11)) (ck (inb a1 (stLen.getD q0 0)) (ck (decide (((((((stByt.getD q0 []).getD (a1.toNatClampNeg) 0) &&& (255 : Int32)).toUInt32 % 65536).toInt32).toUInt32 % 65536).toInt32 = (((((stByt.getD q0 []).getD (a1.toNatClampNeg) 0) &&& (255 : Int32)).toUInt32 % 65536).toInt32))) (some (((((stByt.getD q0 []).getD (a1.toNatClampNeg) 0) &&& (255 : Int32)).toUInt32 % 65536).toInt32, σ2)))))
set_option maxRecDepth 20000 in
set_option maxHeartbeats 4000000 in
theorem s_J1_charAt_3b067_t121 (G : Gx) (l : Launch) {q0 : Nat} {a1 : Int32} {σ σ' : St} {r : Int32} (hF : F_J1_charAt_3b067_t121 q0 a1 σ = some (r, σ')) : Sp G l yJ1_charAt_3b067 cJ1_charAt_3b067 2 (some .char) (lvl 2) [vR (121, q0, 0), vI a1] σ (va_Qi (fun a b => a = r ∧ b = σ') (Wd G) (AG G)) := by
  refine Sp_of (own := RJ1) (by decide) rfl (Nat.le_of_ble_eq_true rfl) ?_
  intro p e s m args below meth c C
  show Rt G p l e (lvl 2) s m args below meth c 0 0 (MQ below (va_Qi (fun a b => a = r ∧ b = σ') (Wd G) (AG G)) args s 0 0 (AG G)) 2 0 [(0, vR (121, q0, 0)), (1, vI a1)] [] σ
  unfold F_J1_charAt_3b067_t121 at hF
  refine r_iload_n C 1 1 dJ1_charAt_3b067_0 rfl rfl ?_
  refine r_aload_n C 0 0 dJ1_charAt_3b067_1 rfl rfl ?_
  obtain ⟨h1, hF⟩ := ck_e hF
  refine r_alenS C dJ1_charAt_3b067_2 (n11 h1) ?_
  obtain ⟨⟨⟩, σ2, e3, hF⟩ := bd_e hF
  refine r_callS_v (as := [vI a1, vI (Int32.ofNat (stLen.getD q0 0))]) (st := []) C dJ1_charAt_3b067_3 (s_J0_checkIndex_df160 G l e3) t_2_202 t_2_203 t_1_16 t_2_204 m_J0_checkIndex_df160 ⟨Nat.le_of_ble_eq_true rfl, Nat.le_of_ble_eq_true rfl⟩ ⟨rfl, rfl⟩ ⟨Nat.zero_le _, Nat.zero_le _⟩ rfl (Nat.le_of_ble_eq_true rfl) ?_
  refine r_aload_n C 0 0 dJ1_charAt_3b067_6 rfl rfl ?_
  refine r_iload_n C 1 1 dJ1_charAt_3b067_7 rfl rfl ?_
  obtain ⟨h5, hF⟩ := ck_e hF
  obtain ⟨h4, hF⟩ := ck_e hF
  refine r_baloadS C (a1.toNatClampNeg) dJ1_charAt_3b067_8 (n11 h5) h4 rfl ?_
  refine r_sipush (v := (255 : Int32)) C dJ1_charAt_3b067_9 rfl ?_
  refine r_iand C dJ1_charAt_3b067_12 ?_
  refine r_i2c C dJ1_charAt_3b067_13 ?_
  obtain ⟨h6, hF⟩ := ck_e hF
  exact r_zreturn C dJ1_charAt_3b067_14 (nar_c h6) (rt_e hF)
def F_J0_charAt_5068e (q0 : Nat) (a1 : Int32) (σ : St) : Option (Int32 × St) :=
  ck (decide (q0 < 11)) (bd (F_J0_isLatin1_aae02 q0 σ) fun r3 σ1 => (if r3 = 0 then ck (decide (q0 < 11)) (none) else ck (decide (q0 < 11)) (bd (F_J1_charAt_3b067_t121 q0 a1 σ1) fun r8 σ7 => ck (decide ((r8.toUInt32 % 65536).toInt32 = r8)) (some (r8, σ7)))))
set_option maxRecDepth 20000 in
set_option maxHeartbeats 4000000 in
theorem s_J0_charAt_5068e (G : Gx) (l : Launch) {q0 : Nat} {a1 : Int32} {σ σ' : St} {r : Int32} (hF : F_J0_charAt_5068e q0 a1 σ = some (r, σ')) : Sp G l yJ0_charAt_5068e cJ0_charAt_5068e 2 (some .char) (lvl 3) [vR (120, q0, 0), vI a1] σ (va_Qi (fun a b => a = r ∧ b = σ') (Wd G) (AG G)) := by
  refine Sp_of (own := RJ0) (by decide) rfl (Nat.le_of_ble_eq_true rfl) ?_
  intro p e s m args below meth c C
  show Rt G p l e (lvl 3) s m args below meth c 0 0 (MQ below (va_Qi (fun a b => a = r ∧ b = σ') (Wd G) (AG G)) args s 0 0 (AG G)) 2 0 [(0, vR (120, q0, 0)), (1, vI a1)] [] σ
  unfold F_J0_charAt_5068e at hF
  refine r_aload_n C 0 0 dJ0_charAt_5068e_0 rfl rfl ?_
  obtain ⟨h2, hF⟩ := ck_e hF
  obtain ⟨r3, σ1, e4, hF⟩ := bd_e hF
  refine r_callX_i (as := []) (st := []) C dJ0_charAt_5068e_1 (s_J0_isLatin1_aae02 G l e4) (n11 h2) t_2_195 t_2_196 t_2_197 t_1_16 t_2_198 m_J0_isLatin1_aae02 ⟨Nat.le_of_ble_eq_true rfl, Nat.le_of_ble_eq_true rfl⟩ ⟨rfl, rfl⟩ ⟨Nat.zero_le _, Nat.zero_le _⟩ rfl (Nat.le_of_ble_eq_true rfl) ?_
  refine r_if_eq C 16 dJ0_charAt_5068e_4 (by decide)  (fun h11 => ?_) (fun h11 => ?_)
  · have hF := if_t h11 hF
    refine r_aload_n C 0 0 dJ0_charAt_5068e_16 rfl rfl ?_
    obtain ⟨h5, hF⟩ := ck_e hF
    refine r_strV C dJ0_charAt_5068e_17 t_7_17 (n11 h5) ?_
    refine r_iload_n C 1 1 dJ0_charAt_5068e_20 rfl rfl ?_
    cases hF
  · have hF := if_f h11 hF
    refine r_aload_n C 0 0 dJ0_charAt_5068e_7 rfl rfl ?_
    obtain ⟨h6, hF⟩ := ck_e hF
    refine r_strV C dJ0_charAt_5068e_8 t_7_17 (n11 h6) ?_
    refine r_iload_n C 1 1 dJ0_charAt_5068e_11 rfl rfl ?_
    obtain ⟨r8, σ7, e9, hF⟩ := bd_e hF
    refine r_callS_i (as := [vR (121, q0, 0), vI a1]) (st := []) C dJ0_charAt_5068e_12 (s_J1_charAt_3b067_t121 G l e9) t_2_199 t_2_200 t_1_17 t_2_201 m_J1_charAt_3b067 ⟨Nat.le_of_ble_eq_true rfl, Nat.le_of_ble_eq_true rfl⟩ ⟨rfl, rfl⟩ ⟨Nat.zero_le _, Nat.zero_le _⟩ rfl (Nat.le_of_ble_eq_true rfl) ?_
    obtain ⟨h10, hF⟩ := ck_e hF
    exact r_zreturn C dJ0_charAt_5068e_15 (nar_c h10) (rt_e hF)
def L_X8_isName_28 (q1 : Nat) : Nat → Int32 → St → Option (Int32 × St)
  | 0, _, _ => none
  | n + 1, v2, τ =>
  ck (decide (q1 < 11)) (bd (F_J0_length_8abf5 q1 τ) fun r7 σ5 => (if r7 ≤ v2 then some ((1 : Int32), σ5) else bd (F_X8_byteAt ((σ5.1 (2, 0, 0) 8) + v2) σ5) fun r10 σ9 => ck (decide (q1 < 11)) (bd (F_J0_charAt_5068e q1 v2 σ9) fun r14 σ12 => (if r10 = r14 then nam (v2 + (1 : Int32)) fun x16 => L_X8_isName_28 q1 n x16 σ12 else some ((0 : Int32), σ12)))))
def F_X8_isName (q1 : Nat) (σ : St) : Option (Int32 × St) :=
  (if (σ.1 (2, 0, 0) 7) = (1 : Int32) then ck (decide (q1 < 11)) (bd (F_J0_length_8abf5 q1 σ) fun r3 σ1 => (if ((σ.1 (2, 0, 0) 5) - (σ.1 (2, 0, 0) 8)) = r3 then L_X8_isName_28 q1 FU (0 : Int32) σ1  else some ((0 : Int32), σ1))) else some ((0 : Int32), σ))
set_option maxRecDepth 20000 in
set_option maxHeartbeats 4000000 in
theorem l_X8_isName_28 {G : Gx} {p : Program} {l : Launch} {e : Env} {s : State} {m : MethodId} {args : Array Value} {below : List Frame} {meth : Method} {c : Code} (C : Cx G p s m args meth c (some .boolean) 3 RX8 cX8_isName) (q1 : Nat) {σ' : St} {r : Int32} : ∀ (n : Nat) (v2 : Int32) (τ : St), L_X8_isName_28 q1 n v2 τ = some (r, σ') → Rt G p l e (lvl 4) s m args below meth c 0 0 (MQ below (va_Qi (fun a b => a = r ∧ b = σ') (Wd G) (AG G)) args s 0 0 (AG G)) 3 28 [(0, vR (2, 0, 0)), (1, vR (120, q1, 0)), (2, vI v2)] [] τ := by
  intro n
  induction n with
  | zero => intro v2 τ hF; cases hF
  | succ n ih =>
    intro v2 τ hF
    unfold L_X8_isName_28 at hF
    refine r_iload_n C 2 2 dX8_isName_28 rfl rfl ?_
    refine r_aload_n C 1 1 dX8_isName_29 rfl rfl ?_
    obtain ⟨h6, hF⟩ := ck_e hF
    obtain ⟨r7, σ5, e8, hF⟩ := bd_e hF
    refine r_callX_i (as := []) (st := [vI v2]) C dX8_isName_30 (s_J0_length_8abf5 G l e8) (n11 h6) t_2_181 t_2_182 t_2_183 t_1_16 t_2_184 m_J0_length_8abf5 ⟨Nat.le_of_ble_eq_true rfl, Nat.le_of_ble_eq_true rfl⟩ ⟨rfl, rfl⟩ ⟨Nat.zero_le _, Nat.zero_le _⟩ rfl (Nat.le_of_ble_eq_true rfl) ?_
    refine r_icmp_ge C 62 dX8_isName_33 (by decide)  (fun h18 => ?_) (fun h18 => ?_)
    · have hF := if_t h18 hF
      refine r_iconst (v := (1 : Int32)) C dX8_isName_62 rfl ?_
      exact r_zreturn C dX8_isName_63 (nar_z (Or.inr rfl)) (rt_e hF)
    · have hF := if_f h18 hF
      refine r_aload_n C 0 0 dX8_isName_36 rfl rfl ?_
      refine r_aload_n C 0 0 dX8_isName_37 rfl rfl ?_
      refine r_getI (kf := 8) C dX8_isName_38 rfl rfl f_X8 (by decide) t_1_67 rfl ?_
      refine r_iload_n C 2 2 dX8_isName_41 rfl rfl ?_
      refine r_iadd C dX8_isName_42 ?_
      obtain ⟨r10, σ9, e11, hF⟩ := bd_e hF
      refine r_callV_i (as := [vI ((σ5.1 (2, 0, 0) 8) + v2)]) (st := []) C dX8_isName_43 (s_X8_byteAt G l e11) rfl rfl rfl t_2_165 t_2_167 t_s_2 t_1_2 t_2_168 m_X8_byteAt ⟨Nat.le_of_ble_eq_true rfl, Nat.le_of_ble_eq_true rfl⟩ ⟨rfl, rfl⟩ ⟨Nat.zero_le _, Nat.zero_le _⟩ rfl (Nat.le_of_ble_eq_true rfl) ?_
      refine r_aload_n C 1 1 dX8_isName_46 rfl rfl ?_
      refine r_iload_n C 2 2 dX8_isName_47 rfl rfl ?_
      obtain ⟨h13, hF⟩ := ck_e hF
      obtain ⟨r14, σ12, e15, hF⟩ := bd_e hF
      refine r_callX_i (as := [vI v2]) (st := [vI r10]) C dX8_isName_48 (s_J0_charAt_5068e G l e15) (n11 h13) t_2_191 t_2_192 t_2_193 t_1_16 t_2_194 m_J0_charAt_5068e ⟨Nat.le_of_ble_eq_true rfl, Nat.le_of_ble_eq_true rfl⟩ ⟨rfl, rfl⟩ ⟨Nat.zero_le _, Nat.zero_le _⟩ rfl (Nat.le_of_ble_eq_true rfl) ?_
      refine r_icmp_eq C 56 dX8_isName_51 (by decide)  (fun h17 => ?_) (fun h17 => ?_)
      · have hF := if_t h17 hF
        obtain ⟨x16, ex16, hF⟩ := nam_e hF
        refine r_iinc (v := x16) (ls2 := [(2, vI x16), (0, vR (2, 0, 0)), (1, vR (120, q1, 0))]) C 2 dX8_isName_56 rfl ex16.symm (by decide) rfl ?_
        refine r_goto C 28 dX8_isName_59 (by decide) ?_
        refine r_drop (ls2 := [(0, vR (2, 0, 0)), (1, vR (120, q1, 0)), (2, vI x16)]) [1, 2, 0] rfl ?_
        exact ih _ _ hF
      · have hF := if_f h17 hF
        refine r_iconst (v := (0 : Int32)) C dX8_isName_54 rfl ?_
        exact r_zreturn C dX8_isName_55 (nar_z (Or.inl rfl)) (rt_e hF)
set_option maxRecDepth 20000 in
set_option maxHeartbeats 4000000 in
theorem s_X8_isName (G : Gx) (l : Launch) {q1 : Nat} {σ σ' : St} {r : Int32} (hF : F_X8_isName q1 σ = some (r, σ')) : Sp G l yX8_isName cX8_isName 3 (some .boolean) (lvl 4) [vR (2, 0, 0), vR (120, q1, 0)] σ (va_Qi (fun a b => a = r ∧ b = σ') (Wd G) (AG G)) := by
  refine Sp_of (own := RX8) (by decide) rfl (Nat.le_of_ble_eq_true rfl) ?_
  intro p e s m args below meth c C
  show Rt G p l e (lvl 4) s m args below meth c 0 0 (MQ below (va_Qi (fun a b => a = r ∧ b = σ') (Wd G) (AG G)) args s 0 0 (AG G)) 3 0 [(0, vR (2, 0, 0)), (1, vR (120, q1, 0))] [] σ
  unfold F_X8_isName at hF
  refine r_aload_n C 0 0 dX8_isName_0 rfl rfl ?_
  refine r_getI (kf := 7) C dX8_isName_1 rfl rfl f_X8 (by decide) t_1_66 rfl ?_
  refine r_iconst (v := (1 : Int32)) C dX8_isName_4 rfl ?_
  refine r_icmp_ne C 24 dX8_isName_5 (by decide)  (fun h20 => ?_) (fun h20 => ?_)
  · have hF := if_f h20 hF
    refine r_iconst (v := (0 : Int32)) C dX8_isName_24 rfl ?_
    exact r_zreturn C dX8_isName_25 (nar_z (Or.inl rfl)) (rt_e hF)
  · have hF := if_t h20 hF
    refine r_aload_n C 0 0 dX8_isName_8 rfl rfl ?_
    refine r_getI (kf := 5) C dX8_isName_9 rfl rfl f_X8 (by decide) t_1_64 rfl ?_
    refine r_aload_n C 0 0 dX8_isName_12 rfl rfl ?_
    refine r_getI (kf := 8) C dX8_isName_13 rfl rfl f_X8 (by decide) t_1_67 rfl ?_
    refine r_isub C dX8_isName_16 ?_
    refine r_aload_n C 1 1 dX8_isName_17 rfl rfl ?_
    obtain ⟨h2, hF⟩ := ck_e hF
    obtain ⟨r3, σ1, e4, hF⟩ := bd_e hF
    refine r_callX_i (as := []) (st := [vI ((σ.1 (2, 0, 0) 5) - (σ.1 (2, 0, 0) 8))]) C dX8_isName_18 (s_J0_length_8abf5 G l e4) (n11 h2) t_2_181 t_2_182 t_2_183 t_1_16 t_2_184 m_J0_length_8abf5 ⟨Nat.le_of_ble_eq_true rfl, Nat.le_of_ble_eq_true rfl⟩ ⟨rfl, rfl⟩ ⟨Nat.zero_le _, Nat.zero_le _⟩ rfl (Nat.le_of_ble_eq_true rfl) ?_
    refine r_icmp_eq C 26 dX8_isName_21 (by decide)  (fun h19 => ?_) (fun h19 => ?_)
    · have hF := if_t h19 hF
      refine r_iconst (v := (0 : Int32)) C dX8_isName_26 rfl ?_
      refine r_istore_n (ls2 := [(2, vI (0 : Int32)), (0, vR (2, 0, 0)), (1, vR (120, q1, 0))]) C dX8_isName_27 2 rfl (by decide) rfl ?_
      refine r_drop (ls2 := [(0, vR (2, 0, 0)), (1, vR (120, q1, 0)), (2, vI (0 : Int32))]) [1, 2, 0] rfl ?_
      refine l_X8_isName_28 C q1  _ _ _ hF
    · have hF := if_f h19 hF
      refine r_iconst (v := (0 : Int32)) C dX8_isName_24 rfl ?_
      exact r_zreturn C dX8_isName_25 (nar_z (Or.inl rfl)) (rt_e hF)
def F_X8_take (a1 : Int32) (σ : St) : Option (Unit × St) :=
  (if (σ.1 (2, 0, 0) 10) = 0 then bd (F_X8_readToken  σ) fun _ σ1 => (if (σ1.1 (2, 0, 0) 7) = a1 then some ((), σ1) else bd (F_X8_refuse (2 : Int32) (σ1.1 (2, 0, 0) 8) σ1) fun _ σ3 => some ((), σ3)) else some ((), σ))
set_option maxRecDepth 20000 in
set_option maxHeartbeats 4000000 in
theorem s_X8_take (G : Gx) (l : Launch) {a1 : Int32} {σ σ' : St}  (hF : F_X8_take a1 σ = some ((), σ')) : Sp G l yX8_take cX8_take 2 none (lvl 2) [vR (2, 0, 0), vI a1] σ (va_Qv (fun b => b = σ') (Wd G) (AG G)) := by
  refine Sp_of (own := RX8) (by decide) rfl (Nat.le_of_ble_eq_true rfl) ?_
  intro p e s m args below meth c C
  show Rt G p l e (lvl 2) s m args below meth c 0 0 (MQ below (va_Qv (fun b => b = σ') (Wd G) (AG G)) args s 0 0 (AG G)) 2 0 [(0, vR (2, 0, 0)), (1, vI a1)] [] σ
  unfold F_X8_take at hF
  refine r_aload_n C 0 0 dX8_take_0 rfl rfl ?_
  refine r_getI (kf := 10) C dX8_take_1 rfl rfl f_X8 (by decide) t_1_70 rfl ?_
  refine r_if_eq C 8 dX8_take_4 (by decide)  (fun h6 => ?_) (fun h6 => ?_)
  · have hF := if_t h6 hF
    refine r_aload_n C 0 0 dX8_take_8 rfl rfl ?_
    obtain ⟨⟨⟩, σ1, e2, hF⟩ := bd_e hF
    refine r_callV_v (as := []) (st := []) C dX8_take_9 (s_X8_readToken G l e2) rfl rfl rfl t_2_161 t_2_163 t_s_1 t_1_2 t_2_164 m_X8_readToken ⟨Nat.le_of_ble_eq_true rfl, Nat.le_of_ble_eq_true rfl⟩ ⟨rfl, rfl⟩ ⟨Nat.zero_le _, Nat.zero_le _⟩ rfl (Nat.le_of_ble_eq_true rfl) ?_
    refine r_aload_n C 0 0 dX8_take_12 rfl rfl ?_
    refine r_getI (kf := 7) C dX8_take_13 rfl rfl f_X8 (by decide) t_1_66 rfl ?_
    refine r_iload_n C 1 1 dX8_take_16 rfl rfl ?_
    refine r_icmp_eq C 29 dX8_take_17 (by decide)  (fun h5 => ?_) (fun h5 => ?_)
    · have hF := if_t h5 hF
      exact r_return C dX8_take_29 (rv_e hF)
    · have hF := if_f h5 hF
      refine r_aload_n C 0 0 dX8_take_20 rfl rfl ?_
      refine r_iconst (v := (2 : Int32)) C dX8_take_21 rfl ?_
      refine r_aload_n C 0 0 dX8_take_22 rfl rfl ?_
      refine r_getI (kf := 8) C dX8_take_23 rfl rfl f_X8 (by decide) t_1_67 rfl ?_
      obtain ⟨⟨⟩, σ3, e4, hF⟩ := bd_e hF
      refine r_callV_v (as := [vI (2 : Int32), vI (σ1.1 (2, 0, 0) 8)]) (st := []) C dX8_take_26 (s_X8_refuse G l e4) rfl rfl rfl t_2_172 t_2_174 t_s_3 t_1_2 t_2_175 m_X8_refuse ⟨Nat.le_of_ble_eq_true rfl, Nat.le_of_ble_eq_true rfl⟩ ⟨rfl, rfl⟩ ⟨Nat.zero_le _, Nat.zero_le _⟩ rfl (Nat.le_of_ble_eq_true rfl) ?_
      exact r_return C dX8_take_29 (rv_e hF)
  · have hF := if_f h6 hF
    exact r_return C dX8_take_7 (rv_e hF)
def F_X8_nameOf (a0 : Int32) (σ : St) : Option (Nat × St) :=
  (if a0 = (0 : Int32) then some (2, σ) else (if a0 = (1 : Int32) then some (3, σ) else (if a0 = (2 : Int32) then some (4, σ) else (if a0 = (4 : Int32) then some (5, σ) else (if a0 = (5 : Int32) then some (6, σ) else (if a0 = (6 : Int32) then some (7, σ) else (if a0 = (7 : Int32) then some (8, σ) else (if a0 = (8 : Int32) then some (9, σ) else (if a0 = (3 : Int32) then some (10, σ) else some (10, σ))))))))))
set_option maxRecDepth 20000 in
set_option maxHeartbeats 4000000 in
theorem s_X8_nameOf (G : Gx) (l : Launch) {a0 : Int32} {σ σ' : St} {r : Nat} (hF : F_X8_nameOf a0 σ = some (r, σ')) : Sp G l yX8_nameOf cX8_nameOf 1 (some (.object "java/lang/String")) (lvl 0) [vI a0] σ (va_Qr (fun b => b = (σ', (120, r, 0))) (WdR G) (AG G)) := by
  refine Sp_of (own := RX8) (by decide) rfl (Nat.le_of_ble_eq_true rfl) ?_
  intro p e s m args below meth c C
  show Rt G p l e (lvl 0) s m args below meth c 0 0 (MQ below (va_Qr (fun b => b = (σ', (120, r, 0))) (WdR G) (AG G)) args s 0 0 (AG G)) 1 0 [(0, vI a0)] [] σ
  unfold F_X8_nameOf at hF
  refine r_iload_n C 0 0 dX8_nameOf_0 rfl rfl ?_
  by_cases h1 : a0 = (0 : Int32)
  · have hF := if_t h1 hF
    refine r_tabIn (off := 51) C 52 dX8_nameOf_1 (by rw [h1]; decide) (by rw [h1]; decide) (by rw [h1]; rfl) (by decide) ?_
    refine r_ldcS C 2 (by decide) dX8_nameOf_52 ?_
    exact r_areturn C dX8_nameOf_54 ⟨_, rfl⟩ (rs_e hF)
  have hF := if_f h1 hF
  by_cases h2 : a0 = (1 : Int32)
  · have hF := if_t h2 hF
    refine r_tabIn (off := 54) C 55 dX8_nameOf_1 (by rw [h2]; decide) (by rw [h2]; decide) (by rw [h2]; rfl) (by decide) ?_
    refine r_ldcS C 3 (by decide) dX8_nameOf_55 ?_
    exact r_areturn C dX8_nameOf_57 ⟨_, rfl⟩ (rs_e hF)
  have hF := if_f h2 hF
  by_cases h3 : a0 = (2 : Int32)
  · have hF := if_t h3 hF
    refine r_tabIn (off := 57) C 58 dX8_nameOf_1 (by rw [h3]; decide) (by rw [h3]; decide) (by rw [h3]; rfl) (by decide) ?_
    refine r_ldcS C 4 (by decide) dX8_nameOf_58 ?_
    exact r_areturn C dX8_nameOf_60 ⟨_, rfl⟩ (rs_e hF)
  have hF := if_f h3 hF
  by_cases h4 : a0 = (4 : Int32)
  · have hF := if_t h4 hF
    refine r_tabIn (off := 60) C 61 dX8_nameOf_1 (by rw [h4]; decide) (by rw [h4]; decide) (by rw [h4]; rfl) (by decide) ?_
    refine r_ldcS C 5 (by decide) dX8_nameOf_61 ?_
    exact r_areturn C dX8_nameOf_63 ⟨_, rfl⟩ (rs_e hF)
  have hF := if_f h4 hF
  by_cases h5 : a0 = (5 : Int32)
  · have hF := if_t h5 hF
    refine r_tabIn (off := 63) C 64 dX8_nameOf_1 (by rw [h5]; decide) (by rw [h5]; decide) (by rw [h5]; rfl) (by decide) ?_
    refine r_ldcS C 6 (by decide) dX8_nameOf_64 ?_
    exact r_areturn C dX8_nameOf_66 ⟨_, rfl⟩ (rs_e hF)
  have hF := if_f h5 hF
  by_cases h6 : a0 = (6 : Int32)
  · have hF := if_t h6 hF
    refine r_tabIn (off := 66) C 67 dX8_nameOf_1 (by rw [h6]; decide) (by rw [h6]; decide) (by rw [h6]; rfl) (by decide) ?_
    refine r_ldcS C 7 (by decide) dX8_nameOf_67 ?_
    exact r_areturn C dX8_nameOf_69 ⟨_, rfl⟩ (rs_e hF)
  have hF := if_f h6 hF
  by_cases h7 : a0 = (7 : Int32)
  · have hF := if_t h7 hF
    refine r_tabIn (off := 69) C 70 dX8_nameOf_1 (by rw [h7]; decide) (by rw [h7]; decide) (by rw [h7]; rfl) (by decide) ?_
    refine r_ldcS C 8 (by decide) dX8_nameOf_70 ?_
    exact r_areturn C dX8_nameOf_72 ⟨_, rfl⟩ (rs_e hF)
  have hF := if_f h7 hF
  by_cases h8 : a0 = (8 : Int32)
  · have hF := if_t h8 hF
    refine r_tabIn (off := 72) C 73 dX8_nameOf_1 (by rw [h8]; decide) (by rw [h8]; decide) (by rw [h8]; rfl) (by decide) ?_
    refine r_ldcS C 9 (by decide) dX8_nameOf_73 ?_
    exact r_areturn C dX8_nameOf_75 ⟨_, rfl⟩ (rs_e hF)
  have hF := if_f h8 hF
  by_cases h9 : a0 = (3 : Int32)
  · have hF := if_t h9 hF
    refine r_tabIn (off := 75) C 76 dX8_nameOf_1 (by rw [h9]; decide) (by rw [h9]; decide) (by rw [h9]; rfl) (by decide) ?_
    refine r_ldcS C 10 (by decide) dX8_nameOf_76 ?_
    exact r_areturn C dX8_nameOf_78 ⟨_, rfl⟩ (rs_e hF)
  have hF := if_f h9 hF
  refine r_tabOut C 76 dX8_nameOf_1 (by have u0 := lv_neT h1 (a := 0) rfl; have u1 := lv_neT h2 (a := 1) rfl; have u2 := lv_neT h3 (a := 2) rfl; have u3 := lv_neT h4 (a := 4) rfl; have u4 := lv_neT h5 (a := 5) rfl; have u5 := lv_neT h6 (a := 6) rfl; have u6 := lv_neT h7 (a := 7) rfl; have u7 := lv_neT h8 (a := 8) rfl; have u8 := lv_neT h9 (a := 3) rfl; omega) (by decide) ?_
  refine r_ldcS C 10 (by decide) dX8_nameOf_76 ?_
  exact r_areturn C dX8_nameOf_78 ⟨_, rfl⟩ (rs_e hF)
def L_X8_ruleNamed_2  : Nat → Int32 → St → Option (Int32 × St)
  | 0, _, _ => none
  | n + 1, v1, τ =>
  (if (9 : Int32) ≤ v1 then some ((-4 : Int32), τ) else bd (F_X8_nameOf v1 τ) fun r2 σ1 => bd (F_X8_isName r2 σ1) fun r5 σ4 => (if r5 = 0 then nam (v1 + (1 : Int32)) fun x7 => L_X8_ruleNamed_2 n x7 σ4 else some (v1, σ4)))
def F_X8_ruleNamed  (σ : St) : Option (Int32 × St) :=
  L_X8_ruleNamed_2  FU (0 : Int32) σ 
set_option maxRecDepth 20000 in
set_option maxHeartbeats 4000000 in
theorem l_X8_ruleNamed_2 {G : Gx} {p : Program} {l : Launch} {e : Env} {s : State} {m : MethodId} {args : Array Value} {below : List Frame} {meth : Method} {c : Code} (C : Cx G p s m args meth c (some .int) 2 RX8 cX8_ruleNamed)  {σ' : St} {r : Int32} : ∀ (n : Nat) (v1 : Int32) (τ : St), L_X8_ruleNamed_2  n v1 τ = some (r, σ') → Rt G p l e (lvl 5) s m args below meth c 0 0 (MQ below (va_Qi (fun a b => a = r ∧ b = σ') (Wd G) (AG G)) args s 0 0 (AG G)) 2 2 [(0, vR (2, 0, 0)), (1, vI v1)] [] τ := by
  intro n
  induction n with
  | zero => intro v1 τ hF; cases hF
  | succ n ih =>
    intro v1 τ hF
    unfold L_X8_ruleNamed_2 at hF
    refine r_iload_n C 1 1 dX8_ruleNamed_2 rfl rfl ?_
    refine r_bipush (v := (9 : Int32)) C dX8_ruleNamed_3 rfl ?_
    refine r_icmp_ge C 27 dX8_ruleNamed_5 (by decide)  (fun h9 => ?_) (fun h9 => ?_)
    · have hF := if_t h9 hF
      refine r_bipush (v := (-4 : Int32)) C dX8_ruleNamed_27 rfl ?_
      exact r_ireturn C dX8_ruleNamed_29 (rt_e hF)
    · have hF := if_f h9 hF
      refine r_aload_n C 0 0 dX8_ruleNamed_8 rfl rfl ?_
      refine r_iload_n C 1 1 dX8_ruleNamed_9 rfl rfl ?_
      obtain ⟨r2, σ1, e3, hF⟩ := bd_e hF
      refine r_callS_r (as := [vI v1]) (st := [vR (2, 0, 0)]) C dX8_ruleNamed_10 (s_X8_nameOf G l e3) t_3_59 t_3_60 t_1_2 t_3_61 m_X8_nameOf ⟨Nat.le_of_ble_eq_true rfl, Nat.le_of_ble_eq_true rfl⟩ ⟨rfl, rfl⟩ ⟨Nat.zero_le _, Nat.zero_le _⟩ rfl (Nat.le_of_ble_eq_true rfl) ?_
      obtain ⟨r5, σ4, e6, hF⟩ := bd_e hF
      refine r_callV_i (as := [vR (120, r2, 0)]) (st := []) C dX8_ruleNamed_13 (s_X8_isName G l e6) rfl rfl rfl t_2_177 t_2_179 t_s_4 t_1_2 t_2_180 m_X8_isName ⟨Nat.le_of_ble_eq_true rfl, Nat.le_of_ble_eq_true rfl⟩ ⟨rfl, rfl⟩ ⟨Nat.zero_le _, Nat.zero_le _⟩ rfl (Nat.le_of_ble_eq_true rfl) ?_
      refine r_if_eq C 21 dX8_ruleNamed_16 (by decide)  (fun h8 => ?_) (fun h8 => ?_)
      · have hF := if_t h8 hF
        obtain ⟨x7, ex7, hF⟩ := nam_e hF
        refine r_iinc (v := x7) (ls2 := [(1, vI x7), (0, vR (2, 0, 0))]) C 1 dX8_ruleNamed_21 rfl ex7.symm (by decide) rfl ?_
        refine r_goto C 2 dX8_ruleNamed_24 (by decide) ?_
        refine r_drop (ls2 := [(0, vR (2, 0, 0)), (1, vI x7)]) [1, 0] rfl ?_
        exact ih _ _ hF
      · have hF := if_f h8 hF
        refine r_iload_n C 1 1 dX8_ruleNamed_19 rfl rfl ?_
        exact r_ireturn C dX8_ruleNamed_20 (rt_e hF)
set_option maxRecDepth 20000 in
set_option maxHeartbeats 4000000 in
theorem s_X8_ruleNamed (G : Gx) (l : Launch)  {σ σ' : St} {r : Int32} (hF : F_X8_ruleNamed  σ = some (r, σ')) : Sp G l yX8_ruleNamed cX8_ruleNamed 2 (some .int) (lvl 5) [vR (2, 0, 0)] σ (va_Qi (fun a b => a = r ∧ b = σ') (Wd G) (AG G)) := by
  refine Sp_of (own := RX8) (by decide) rfl (Nat.le_of_ble_eq_true rfl) ?_
  intro p e s m args below meth c C
  show Rt G p l e (lvl 5) s m args below meth c 0 0 (MQ below (va_Qi (fun a b => a = r ∧ b = σ') (Wd G) (AG G)) args s 0 0 (AG G)) 2 0 [(0, vR (2, 0, 0))] [] σ
  unfold F_X8_ruleNamed at hF
  refine r_iconst (v := (0 : Int32)) C dX8_ruleNamed_0 rfl ?_
  refine r_istore_n (ls2 := [(1, vI (0 : Int32)), (0, vR (2, 0, 0))]) C dX8_ruleNamed_1 1 rfl (by decide) rfl ?_
  refine r_drop (ls2 := [(0, vR (2, 0, 0)), (1, vI (0 : Int32))]) [1, 0] rfl ?_
  refine l_X8_ruleNamed_2 C   _ _ _ hF
def F_X5_become (q0 : Nat) (a1 : Int32) (a2 : Int32) (σ : St) : Option (Unit × St) :=
  (if a1 < 0 then some ((), σ) else (if (9 : Int32) ≤ a1 then some ((), σ) else ck (inb a1 9) (nam (uI σ (4, q0, 0) (a1.toNatClampNeg) a2) fun σ2 => some ((), σ2))))
set_option maxRecDepth 20000 in
set_option maxHeartbeats 4000000 in
theorem s_X5_become (G : Gx) (l : Launch) {q0 : Nat} {a1 : Int32} {a2 : Int32} {σ σ' : St}  (hF : F_X5_become q0 a1 a2 σ = some ((), σ')) : Sp G l yX5_become cX5_become 3 none (lvl 0) [vR (3, q0, 0), vI a1, vI a2] σ (va_Qv (fun b => b = σ') (Wd G) (AG G)) := by
  refine Sp_of (own := RX5) (by decide) rfl (Nat.le_of_ble_eq_true rfl) ?_
  intro p e s m args below meth c C
  show Rt G p l e (lvl 0) s m args below meth c 0 0 (MQ below (va_Qv (fun b => b = σ') (Wd G) (AG G)) args s 0 0 (AG G)) 3 0 [(0, vR (3, q0, 0)), (1, vI a1), (2, vI a2)] [] σ
  unfold F_X5_become at hF
  refine r_iload_n C 1 1 dX5_become_0 rfl rfl ?_
  refine r_if_lt C 17 dX5_become_1 (by decide)  (fun h4 => ?_) (fun h4 => ?_)
  · have hF := if_t h4 hF
    exact r_return C dX5_become_17 (rv_e hF)
  · have hF := if_f h4 hF
    refine r_iload_n C 1 1 dX5_become_4 rfl rfl ?_
    refine r_bipush (v := (9 : Int32)) C dX5_become_5 rfl ?_
    refine r_icmp_ge C 17 dX5_become_7 (by decide)  (fun h3 => ?_) (fun h3 => ?_)
    · have hF := if_t h3 hF
      exact r_return C dX5_become_17 (rv_e hF)
    · have hF := if_f h3 hF
      refine r_aload_n C 0 0 dX5_become_10 rfl rfl ?_
      refine r_getR (kf := 0) (d2 := (4, q0, 0)) C dX5_become_11 rfl rfl f_X5 (by decide) t_1_50 rfl rfl ?_
      refine r_iload_n C 1 1 dX5_become_14 rfl rfl ?_
      refine r_iload_n C 2 2 dX5_become_15 rfl rfl ?_
      obtain ⟨h1, hF⟩ := ck_e hF
      obtain ⟨σ2, eσ2, hF⟩ := nam_e hF
      refine r_iastore C (a1.toNatClampNeg) dX5_become_16 rfl h1 rfl eσ2 ?_
      exact r_return C dX5_become_17 (rv_e hF)
def L_X8_readValue_21 (c1 : Int32) (c2 : Int32) : Nat → Int32 → Int32 → St → (Int32 → St → Option (Unit × St)) → Option (Unit × St)
  | 0, _, _, _, _ => none
  | n + 1, v3, v4, τ, kx51 =>
  (if (τ.1 (2, 0, 0) 5) ≤ v4 then kx51 v3 τ else bd (F_X8_byteAt v4 τ) fun r5 σ4 => nam (v4 + (1 : Int32)) fun x7 => L_X8_readValue_21 c1 c2 n ((((10 : Int32) * v3) + r5) - (48 : Int32)) x7 σ4 kx51)
def F_X8_readValue (a1 : Int32) (a2 : Int32) (σ : St) : Option (Unit × St) :=
  bd (F_X8_take (2 : Int32) σ) fun _ σ1 => (if (σ1.1 (2, 0, 0) 10) = 0 then nam (σ1.1 (2, 0, 0) 8) fun x3 => L_X8_readValue_21 a1 a2 FU (0 : Int32) x3 σ1 (fun (y10 : Int32) (σ9 : St) => (if y10 < a2 then bd (F_X8_refuse (3 : Int32) (σ9.1 (2, 0, 0) 8) σ9) fun _ σ11 => some ((), σ11) else ck (inb a1 9) ((if (roC 101 (a1.toNatClampNeg)) < y10 then bd (F_X8_refuse (3 : Int32) (σ9.1 (2, 0, 0) 8) σ9) fun _ σ14 => some ((), σ14) else bd (F_X5_become 1 a1 y10 σ9) fun _ σ16 => some ((), σ16))))) else some ((), σ1))
set_option maxRecDepth 20000 in
set_option maxHeartbeats 4000000 in
theorem l_X8_readValue_21 {G : Gx} {p : Program} {l : Launch} {e : Env} {s : State} {m : MethodId} {args : Array Value} {below : List Frame} {meth : Method} {c : Code} (C : Cx G p s m args meth c none 5 RX8 cX8_readValue) (c1 : Int32) (c2 : Int32) {σ' : St}  (kx51 : Int32 → St → Option (Unit × St)) (hkx51 : ∀ (w3 : Int32) (τ : St), kx51 w3 τ = some ((), σ') → Rt G p l e (lvl 3) s m args below meth c 0 0 (MQ below (va_Qv (fun b => b = σ') (Wd G) (AG G)) args s 0 0 (AG G)) 5 51 [(0, vR (2, 0, 0)), (1, vI c1), (2, vI c2), (3, vI w3)] [] τ) : ∀ (n : Nat) (v3 : Int32) (v4 : Int32) (τ : St), L_X8_readValue_21 c1 c2 n v3 v4 τ kx51 = some ((), σ') → Rt G p l e (lvl 3) s m args below meth c 0 0 (MQ below (va_Qv (fun b => b = σ') (Wd G) (AG G)) args s 0 0 (AG G)) 5 21 [(0, vR (2, 0, 0)), (1, vI c1), (2, vI c2), (3, vI v3), (4, vI v4)] [] τ := by
  intro n
  induction n with
  | zero => intro v3 v4 τ hF; cases hF
  | succ n ih =>
    intro v3 v4 τ hF
    unfold L_X8_readValue_21 at hF
    refine r_iload C 4 dX8_readValue_21 rfl ?_
    refine r_aload_n C 0 0 dX8_readValue_23 rfl rfl ?_
    refine r_getI (kf := 5) C dX8_readValue_24 rfl rfl f_X8 (by decide) t_1_64 rfl ?_
    refine r_icmp_ge C 51 dX8_readValue_27 (by decide)  (fun h8 => ?_) (fun h8 => ?_)
    · have hF := if_t h8 hF
      refine r_drop (ls2 := [(0, vR (2, 0, 0)), (1, vI c1), (2, vI c2), (3, vI v3)]) [0, 1, 2, 3] rfl ?_
      exact hkx51 _ _ hF
    · have hF := if_f h8 hF
      refine r_bipush (v := (10 : Int32)) C dX8_readValue_30 rfl ?_
      refine r_iload_n C 3 3 dX8_readValue_32 rfl rfl ?_
      refine r_imul C dX8_readValue_33 ?_
      refine r_aload_n C 0 0 dX8_readValue_34 rfl rfl ?_
      refine r_iload C 4 dX8_readValue_35 rfl ?_
      obtain ⟨r5, σ4, e6, hF⟩ := bd_e hF
      refine r_callV_i (as := [vI v4]) (st := [vI ((10 : Int32) * v3)]) C dX8_readValue_37 (s_X8_byteAt G l e6) rfl rfl rfl t_2_165 t_2_167 t_s_2 t_1_2 t_2_168 m_X8_byteAt ⟨Nat.le_of_ble_eq_true rfl, Nat.le_of_ble_eq_true rfl⟩ ⟨rfl, rfl⟩ ⟨Nat.zero_le _, Nat.zero_le _⟩ rfl (Nat.le_of_ble_eq_true rfl) ?_
      refine r_iadd C dX8_readValue_40 ?_
      refine r_bipush (v := (48 : Int32)) C dX8_readValue_41 rfl ?_
      refine r_isub C dX8_readValue_43 ?_
      refine r_istore_n (ls2 := [(3, vI ((((10 : Int32) * v3) + r5) - (48 : Int32))), (0, vR (2, 0, 0)), (1, vI c1), (2, vI c2), (4, vI v4)]) C dX8_readValue_44 3 rfl (by decide) rfl ?_
      obtain ⟨x7, ex7, hF⟩ := nam_e hF
      refine r_iinc (v := x7) (ls2 := [(4, vI x7), (3, vI ((((10 : Int32) * v3) + r5) - (48 : Int32))), (0, vR (2, 0, 0)), (1, vI c1), (2, vI c2)]) C 4 dX8_readValue_45 rfl ex7.symm (by decide) rfl ?_
      refine r_goto C 21 dX8_readValue_48 (by decide) ?_
      refine r_drop (ls2 := [(0, vR (2, 0, 0)), (1, vI c1), (2, vI c2), (3, vI ((((10 : Int32) * v3) + r5) - (48 : Int32))), (4, vI x7)]) [2, 3, 4, 1, 0] rfl ?_
      exact ih _ _ _ hF
set_option maxRecDepth 20000 in
set_option maxHeartbeats 4000000 in
theorem s_X8_readValue (G : Gx) (l : Launch) {a1 : Int32} {a2 : Int32} {σ σ' : St}  (hF : F_X8_readValue a1 a2 σ = some ((), σ')) : Sp G l yX8_readValue cX8_readValue 5 none (lvl 3) [vR (2, 0, 0), vI a1, vI a2] σ (va_Qv (fun b => b = σ') (Wd G) (AG G)) := by
  refine Sp_of (own := RX8) (by decide) rfl (Nat.le_of_ble_eq_true rfl) ?_
  intro p e s m args below meth c C
  show Rt G p l e (lvl 3) s m args below meth c 0 0 (MQ below (va_Qv (fun b => b = σ') (Wd G) (AG G)) args s 0 0 (AG G)) 5 0 [(0, vR (2, 0, 0)), (1, vI a1), (2, vI a2)] [] σ
  unfold F_X8_readValue at hF
  refine r_aload_n C 0 0 dX8_readValue_0 rfl rfl ?_
  refine r_iconst (v := (2 : Int32)) C dX8_readValue_1 rfl ?_
  obtain ⟨⟨⟩, σ1, e2, hF⟩ := bd_e hF
  refine r_callV_v (as := [vI (2 : Int32)]) (st := []) C dX8_readValue_2 (s_X8_take G l e2) rfl rfl rfl t_2_233 t_2_235 t_s_6 t_1_2 t_2_236 m_X8_take ⟨Nat.le_of_ble_eq_true rfl, Nat.le_of_ble_eq_true rfl⟩ ⟨rfl, rfl⟩ ⟨Nat.zero_le _, Nat.zero_le _⟩ rfl (Nat.le_of_ble_eq_true rfl) ?_
  refine r_aload_n C 0 0 dX8_readValue_5 rfl rfl ?_
  refine r_getI (kf := 10) C dX8_readValue_6 rfl rfl f_X8 (by decide) t_1_70 rfl ?_
  refine r_if_eq C 13 dX8_readValue_9 (by decide)  (fun h20 => ?_) (fun h20 => ?_)
  · have hF := if_t h20 hF
    refine r_iconst (v := (0 : Int32)) C dX8_readValue_13 rfl ?_
    refine r_istore_n (ls2 := [(3, vI (0 : Int32)), (0, vR (2, 0, 0)), (1, vI a1), (2, vI a2)]) C dX8_readValue_14 3 rfl (by decide) rfl ?_
    refine r_aload_n C 1 0 dX8_readValue_15 rfl rfl ?_
    refine r_getI (kf := 8) C dX8_readValue_16 rfl rfl f_X8 (by decide) t_1_67 rfl ?_
    obtain ⟨x3, ex3, hF⟩ := nam_e hF
    refine r_topI ex3 ?_
    refine r_istore (ls2 := [(4, vI x3), (3, vI (0 : Int32)), (0, vR (2, 0, 0)), (1, vI a1), (2, vI a2)]) C dX8_readValue_19 (by decide) rfl ?_
    refine r_drop (ls2 := [(0, vR (2, 0, 0)), (1, vI a1), (2, vI a2), (3, vI (0 : Int32)), (4, vI x3)]) [2, 3, 4, 1, 0] rfl ?_
    refine l_X8_readValue_21 C a1 a2 _ ?_ _ _ _ _ hF
    · intro y10 σ9 hF
      refine r_iload_n C 3 3 dX8_readValue_51 rfl rfl ?_
      refine r_iload_n C 2 2 dX8_readValue_52 rfl rfl ?_
      refine r_icmp_lt C 77 dX8_readValue_53 (by decide)  (fun h19 => ?_) (fun h19 => ?_)
      · have hF := if_t h19 hF
        refine r_aload_n C 0 0 dX8_readValue_77 rfl rfl ?_
        refine r_iconst (v := (3 : Int32)) C dX8_readValue_78 rfl ?_
        refine r_aload_n C 0 0 dX8_readValue_79 rfl rfl ?_
        refine r_getI (kf := 8) C dX8_readValue_80 rfl rfl f_X8 (by decide) t_1_67 rfl ?_
        obtain ⟨⟨⟩, σ11, e12, hF⟩ := bd_e hF
        refine r_callV_v (as := [vI (3 : Int32), vI (σ9.1 (2, 0, 0) 8)]) (st := []) C dX8_readValue_83 (s_X8_refuse G l e12) rfl rfl rfl t_2_172 t_2_174 t_s_3 t_1_2 t_2_175 m_X8_refuse ⟨Nat.le_of_ble_eq_true rfl, Nat.le_of_ble_eq_true rfl⟩ ⟨rfl, rfl⟩ ⟨Nat.zero_le _, Nat.zero_le _⟩ rfl (Nat.le_of_ble_eq_true rfl) ?_
        exact r_return C dX8_readValue_86 (rv_e hF)
      · have hF := if_f h19 hF
        refine r_iload_n C 3 3 dX8_readValue_56 rfl rfl ?_
        refine r_getsN (t := 101) (nm := "RULE_MOST") C dX8_readValue_57 (by decide) (by decide) (by decide) ?_
        refine r_iload_n C 1 1 dX8_readValue_60 rfl rfl ?_
        obtain ⟨h13, hF⟩ := ck_e hF
        refine r_roload (v := roC 101 (a1.toNatClampNeg)) C (a1.toNatClampNeg) dX8_readValue_61 (by decide) h13 rfl rfl ?_
        refine r_icmp_gt C 77 dX8_readValue_62 (by decide)  (fun h18 => ?_) (fun h18 => ?_)
        · have hF := if_t h18 hF
          refine r_aload_n C 0 0 dX8_readValue_77 rfl rfl ?_
          refine r_iconst (v := (3 : Int32)) C dX8_readValue_78 rfl ?_
          refine r_aload_n C 0 0 dX8_readValue_79 rfl rfl ?_
          refine r_getI (kf := 8) C dX8_readValue_80 rfl rfl f_X8 (by decide) t_1_67 rfl ?_
          obtain ⟨⟨⟩, σ14, e15, hF⟩ := bd_e hF
          refine r_callV_v (as := [vI (3 : Int32), vI (σ9.1 (2, 0, 0) 8)]) (st := []) C dX8_readValue_83 (s_X8_refuse G l e15) rfl rfl rfl t_2_172 t_2_174 t_s_3 t_1_2 t_2_175 m_X8_refuse ⟨Nat.le_of_ble_eq_true rfl, Nat.le_of_ble_eq_true rfl⟩ ⟨rfl, rfl⟩ ⟨Nat.zero_le _, Nat.zero_le _⟩ rfl (Nat.le_of_ble_eq_true rfl) ?_
          exact r_return C dX8_readValue_86 (rv_e hF)
        · have hF := if_f h18 hF
          refine r_aload_n C 0 0 dX8_readValue_65 rfl rfl ?_
          refine r_getR (kf := 1) (d2 := (3, 1, 0)) C dX8_readValue_66 rfl rfl f_X8 (by decide) t_1_58 rfl rfl ?_
          refine r_iload_n C 1 1 dX8_readValue_69 rfl rfl ?_
          refine r_iload_n C 3 3 dX8_readValue_70 rfl rfl ?_
          obtain ⟨⟨⟩, σ16, e17, hF⟩ := bd_e hF
          refine r_callV_v (as := [vI a1, vI y10]) (st := []) C dX8_readValue_71 (s_X5_become G l e17) rfl rfl rfl t_3_83 t_3_84 t_3_85 t_1_3 t_3_86 m_X5_become ⟨Nat.le_of_ble_eq_true rfl, Nat.le_of_ble_eq_true rfl⟩ ⟨rfl, rfl⟩ ⟨Nat.zero_le _, Nat.zero_le _⟩ rfl (Nat.le_of_ble_eq_true rfl) ?_
          refine r_goto C 86 dX8_readValue_74 (by decide) ?_
          exact r_return C dX8_readValue_86 (rv_e hF)
  · have hF := if_f h20 hF
    exact r_return C dX8_readValue_12 (rv_e hF)
def F_X5_value (q0 : Nat) (a1 : Int32) (σ : St) : Option (Int32 × St) :=
  (if a1 < 0 then some ((0 : Int32), σ) else (if (9 : Int32) ≤ a1 then some ((0 : Int32), σ) else ck (inb a1 9) (some (σ.1 (4, q0, 0) (a1.toNatClampNeg), σ))))
set_option maxRecDepth 20000 in
set_option maxHeartbeats 4000000 in
theorem s_X5_value (G : Gx) (l : Launch) {q0 : Nat} {a1 : Int32} {σ σ' : St} {r : Int32} (hF : F_X5_value q0 a1 σ = some (r, σ')) : Sp G l yX5_value cX5_value 2 (some .int) (lvl 0) [vR (3, q0, 0), vI a1] σ (va_Qi (fun a b => a = r ∧ b = σ') (Wd G) (AG G)) := by
  refine Sp_of (own := RX5) (by decide) rfl (Nat.le_of_ble_eq_true rfl) ?_
  intro p e s m args below meth c C
  show Rt G p l e (lvl 0) s m args below meth c 0 0 (MQ below (va_Qi (fun a b => a = r ∧ b = σ') (Wd G) (AG G)) args s 0 0 (AG G)) 2 0 [(0, vR (3, q0, 0)), (1, vI a1)] [] σ
  unfold F_X5_value at hF
  refine r_iload_n C 1 1 dX5_value_0 rfl rfl ?_
  refine r_if_lt C 19 dX5_value_1 (by decide)  (fun h3 => ?_) (fun h3 => ?_)
  · have hF := if_t h3 hF
    refine r_iconst (v := (0 : Int32)) C dX5_value_19 rfl ?_
    exact r_ireturn C dX5_value_20 (rt_e hF)
  · have hF := if_f h3 hF
    refine r_iload_n C 1 1 dX5_value_4 rfl rfl ?_
    refine r_bipush (v := (9 : Int32)) C dX5_value_5 rfl ?_
    refine r_icmp_ge C 19 dX5_value_7 (by decide)  (fun h2 => ?_) (fun h2 => ?_)
    · have hF := if_t h2 hF
      refine r_iconst (v := (0 : Int32)) C dX5_value_19 rfl ?_
      exact r_ireturn C dX5_value_20 (rt_e hF)
    · have hF := if_f h2 hF
      refine r_aload_n C 0 0 dX5_value_10 rfl rfl ?_
      refine r_getR (kf := 0) (d2 := (4, q0, 0)) C dX5_value_11 rfl rfl f_X5 (by decide) t_1_50 rfl rfl ?_
      refine r_iload_n C 1 1 dX5_value_14 rfl rfl ?_
      obtain ⟨h1, hF⟩ := ck_e hF
      refine r_iaload C (a1.toNatClampNeg) dX5_value_15 rfl h1 rfl ?_
      refine r_goto C 20 dX5_value_16 (by decide) ?_
      exact r_ireturn C dX5_value_20 (rt_e hF)
def F_X8_readRule (a1 : Int32) (σ : St) : Option (Unit × St) :=
  (if a1 < 0 then bd (F_X8_refuse (2 : Int32) (σ.1 (2, 0, 0) 8) σ) fun _ σ1 => some ((), σ1) else (if a1 < (9 : Int32) then ck (inb a1 9) ((if (σ.1 (6, 0, 0) (a1.toNatClampNeg)) = 0 then ck (inb a1 9) (nam (uI σ (6, 0, 0) (a1.toNatClampNeg) (vp_nar .boolean (1 : Int32))) fun σ5 => ck (inb a1 9) (bd (F_X8_readValue a1 (roC 100 (a1.toNatClampNeg)) σ5) fun _ σ7 => (if a1 = (2 : Int32) then bd (F_X5_value 1 (2 : Int32) σ7) fun r10 σ9 => bd (F_X8_readValue (3 : Int32) r10 σ9) fun _ σ12 => some ((), σ12) else some ((), σ7)))) else bd (F_X8_refuse (4 : Int32) (σ.1 (2, 0, 0) 8) σ) fun _ σ15 => some ((), σ15))) else bd (F_X8_refuse (2 : Int32) (σ.1 (2, 0, 0) 8) σ) fun _ σ18 => some ((), σ18)))
set_option maxRecDepth 20000 in
set_option maxHeartbeats 4000000 in
theorem s_X8_readRule (G : Gx) (l : Launch) {a1 : Int32} {σ σ' : St}  (hF : F_X8_readRule a1 σ = some ((), σ')) : Sp G l yX8_readRule cX8_readRule 2 none (lvl 4) [vR (2, 0, 0), vI a1] σ (va_Qv (fun b => b = σ') (Wd G) (AG G)) := by
  refine Sp_of (own := RX8) (by decide) rfl (Nat.le_of_ble_eq_true rfl) ?_
  intro p e s m args below meth c C
  show Rt G p l e (lvl 4) s m args below meth c 0 0 (MQ below (va_Qv (fun b => b = σ') (Wd G) (AG G)) args s 0 0 (AG G)) 2 0 [(0, vR (2, 0, 0)), (1, vI a1)] [] σ
  unfold F_X8_readRule at hF
  refine r_iload_n C 1 1 dX8_readRule_0 rfl rfl ?_
  refine r_if_lt C 10 dX8_readRule_1 (by decide)  (fun h21 => ?_) (fun h21 => ?_)
  · have hF := if_t h21 hF
    refine r_aload_n C 0 0 dX8_readRule_10 rfl rfl ?_
    refine r_iconst (v := (2 : Int32)) C dX8_readRule_11 rfl ?_
    refine r_aload_n C 0 0 dX8_readRule_12 rfl rfl ?_
    refine r_getI (kf := 8) C dX8_readRule_13 rfl rfl f_X8 (by decide) t_1_67 rfl ?_
    obtain ⟨⟨⟩, σ1, e2, hF⟩ := bd_e hF
    refine r_callV_v (as := [vI (2 : Int32), vI (σ.1 (2, 0, 0) 8)]) (st := []) C dX8_readRule_16 (s_X8_refuse G l e2) rfl rfl rfl t_2_172 t_2_174 t_s_3 t_1_2 t_2_175 m_X8_refuse ⟨Nat.le_of_ble_eq_true rfl, Nat.le_of_ble_eq_true rfl⟩ ⟨rfl, rfl⟩ ⟨Nat.zero_le _, Nat.zero_le _⟩ rfl (Nat.le_of_ble_eq_true rfl) ?_
    exact r_return C dX8_readRule_19 (rv_e hF)
  · have hF := if_f h21 hF
    refine r_iload_n C 1 1 dX8_readRule_4 rfl rfl ?_
    refine r_bipush (v := (9 : Int32)) C dX8_readRule_5 rfl ?_
    refine r_icmp_lt C 20 dX8_readRule_7 (by decide)  (fun h20 => ?_) (fun h20 => ?_)
    · have hF := if_t h20 hF
      refine r_aload_n C 0 0 dX8_readRule_20 rfl rfl ?_
      refine r_getR (kf := 3) (d2 := (6, 0, 0)) C dX8_readRule_21 rfl rfl f_X8 (by decide) t_1_62 rfl rfl ?_
      refine r_iload_n C 1 1 dX8_readRule_24 rfl rfl ?_
      obtain ⟨h3, hF⟩ := ck_e hF
      refine r_zaload C (a1.toNatClampNeg) dX8_readRule_25 rfl h3 rfl ?_
      refine r_if_eq C 39 dX8_readRule_26 (by decide)  (fun h17 => ?_) (fun h17 => ?_)
      · have hF := if_t h17 hF
        refine r_aload_n C 0 0 dX8_readRule_39 rfl rfl ?_
        refine r_getR (kf := 3) (d2 := (6, 0, 0)) C dX8_readRule_40 rfl rfl f_X8 (by decide) t_1_62 rfl rfl ?_
        refine r_iload_n C 1 1 dX8_readRule_43 rfl rfl ?_
        refine r_iconst (v := (1 : Int32)) C dX8_readRule_44 rfl ?_
        obtain ⟨h4, hF⟩ := ck_e hF
        obtain ⟨σ5, eσ5, hF⟩ := nam_e hF
        refine r_zastore C (a1.toNatClampNeg) dX8_readRule_45 rfl h4 rfl eσ5 ?_
        refine r_aload_n C 0 0 dX8_readRule_46 rfl rfl ?_
        refine r_iload_n C 1 1 dX8_readRule_47 rfl rfl ?_
        refine r_getsN (t := 100) (nm := "RULE_LEAST") C dX8_readRule_48 (by decide) (by decide) (by decide) ?_
        refine r_iload_n C 1 1 dX8_readRule_51 rfl rfl ?_
        obtain ⟨h6, hF⟩ := ck_e hF
        refine r_roload (v := roC 100 (a1.toNatClampNeg)) C (a1.toNatClampNeg) dX8_readRule_52 (by decide) h6 rfl rfl ?_
        obtain ⟨⟨⟩, σ7, e8, hF⟩ := bd_e hF
        refine r_callV_v (as := [vI a1, vI (roC 100 (a1.toNatClampNeg))]) (st := []) C dX8_readRule_53 (s_X8_readValue G l e8) rfl rfl rfl t_3_77 t_3_79 t_s_9 t_1_2 t_3_80 m_X8_readValue ⟨Nat.le_of_ble_eq_true rfl, Nat.le_of_ble_eq_true rfl⟩ ⟨rfl, rfl⟩ ⟨Nat.zero_le _, Nat.zero_le _⟩ rfl (Nat.le_of_ble_eq_true rfl) ?_
        refine r_iload_n C 1 1 dX8_readRule_56 rfl rfl ?_
        refine r_iconst (v := (2 : Int32)) C dX8_readRule_57 rfl ?_
        refine r_icmp_ne C 74 dX8_readRule_58 (by decide)  (fun h14 => ?_) (fun h14 => ?_)
        · have hF := if_f h14 hF
          exact r_return C dX8_readRule_74 (rv_e hF)
        · have hF := if_t h14 hF
          refine r_aload_n C 0 0 dX8_readRule_61 rfl rfl ?_
          refine r_iconst (v := (3 : Int32)) C dX8_readRule_62 rfl ?_
          refine r_aload_n C 0 0 dX8_readRule_63 rfl rfl ?_
          refine r_getR (kf := 1) (d2 := (3, 1, 0)) C dX8_readRule_64 rfl rfl f_X8 (by decide) t_1_58 rfl rfl ?_
          refine r_iconst (v := (2 : Int32)) C dX8_readRule_67 rfl ?_
          obtain ⟨r10, σ9, e11, hF⟩ := bd_e hF
          refine r_callV_i (as := [vI (2 : Int32)]) (st := [vI (3 : Int32), vR (2, 0, 0)]) C dX8_readRule_68 (s_X5_value G l e11) rfl rfl rfl t_3_87 t_3_88 t_3_89 t_1_3 t_3_90 m_X5_value ⟨Nat.le_of_ble_eq_true rfl, Nat.le_of_ble_eq_true rfl⟩ ⟨rfl, rfl⟩ ⟨Nat.zero_le _, Nat.zero_le _⟩ rfl (Nat.le_of_ble_eq_true rfl) ?_
          obtain ⟨⟨⟩, σ12, e13, hF⟩ := bd_e hF
          refine r_callV_v (as := [vI (3 : Int32), vI r10]) (st := []) C dX8_readRule_71 (s_X8_readValue G l e13) rfl rfl rfl t_3_77 t_3_79 t_s_9 t_1_2 t_3_80 m_X8_readValue ⟨Nat.le_of_ble_eq_true rfl, Nat.le_of_ble_eq_true rfl⟩ ⟨rfl, rfl⟩ ⟨Nat.zero_le _, Nat.zero_le _⟩ rfl (Nat.le_of_ble_eq_true rfl) ?_
          exact r_return C dX8_readRule_74 (rv_e hF)
      · have hF := if_f h17 hF
        refine r_aload_n C 0 0 dX8_readRule_29 rfl rfl ?_
        refine r_iconst (v := (4 : Int32)) C dX8_readRule_30 rfl ?_
        refine r_aload_n C 0 0 dX8_readRule_31 rfl rfl ?_
        refine r_getI (kf := 8) C dX8_readRule_32 rfl rfl f_X8 (by decide) t_1_67 rfl ?_
        obtain ⟨⟨⟩, σ15, e16, hF⟩ := bd_e hF
        refine r_callV_v (as := [vI (4 : Int32), vI (σ.1 (2, 0, 0) 8)]) (st := []) C dX8_readRule_35 (s_X8_refuse G l e16) rfl rfl rfl t_2_172 t_2_174 t_s_3 t_1_2 t_2_175 m_X8_refuse ⟨Nat.le_of_ble_eq_true rfl, Nat.le_of_ble_eq_true rfl⟩ ⟨rfl, rfl⟩ ⟨Nat.zero_le _, Nat.zero_le _⟩ rfl (Nat.le_of_ble_eq_true rfl) ?_
        exact r_return C dX8_readRule_38 (rv_e hF)
    · have hF := if_f h20 hF
      refine r_aload_n C 0 0 dX8_readRule_10 rfl rfl ?_
      refine r_iconst (v := (2 : Int32)) C dX8_readRule_11 rfl ?_
      refine r_aload_n C 0 0 dX8_readRule_12 rfl rfl ?_
      refine r_getI (kf := 8) C dX8_readRule_13 rfl rfl f_X8 (by decide) t_1_67 rfl ?_
      obtain ⟨⟨⟩, σ18, e19, hF⟩ := bd_e hF
      refine r_callV_v (as := [vI (2 : Int32), vI (σ.1 (2, 0, 0) 8)]) (st := []) C dX8_readRule_16 (s_X8_refuse G l e19) rfl rfl rfl t_2_172 t_2_174 t_s_3 t_1_2 t_2_175 m_X8_refuse ⟨Nat.le_of_ble_eq_true rfl, Nat.le_of_ble_eq_true rfl⟩ ⟨rfl, rfl⟩ ⟨Nat.zero_le _, Nat.zero_le _⟩ rfl (Nat.le_of_ble_eq_true rfl) ?_
      exact r_return C dX8_readRule_19 (rv_e hF)
