def L_X10_feed_15 (c1 : Int64) : Nat → Int32 → St → (St → Option (Int32 × St)) → Option (Int32 × St)
  | 0, _, _, _ => none
  | n + 1, v3, τ, kx49 =>
  (if (8 : Int32) ≤ v3 then kx49  τ else ck (inb ((τ.1 (0, 0, 0) 1) + v3) 320) (nam (uI τ (1, 0, 0) (((τ.1 (0, 0, 0) 1) + v3).toNatClampNeg) (vp_nar .byte ((((c1.toUInt64 >>> (((8 : Int32) * ((7 : Int32) - v3)).toInt64.toUInt64 &&& Int64.toUInt64 63)).toInt64).toInt32).toInt8.toInt32))) fun σ2 => nam (v3 + (1 : Int32)) fun x3 => L_X10_feed_15 c1 n x3 σ2 kx49))
def F_X10_feed (a1 : Int64) (σ : St) : Option (Int32 × St) :=
  (if (σ.1 (0, 0, 0) 1) ≤ (312 : Int32) then L_X10_feed_15 a1 FU (0 : Int32) σ (fun  (σ5 : St) => nam (uI σ5 (0, 0, 0) 1 ((σ5.1 (0, 0, 0) 1) + (8 : Int32))) fun σ6 => some (σ6.1 (0, 0, 0) 1, σ6)) else some ((-3 : Int32), σ))
set_option maxRecDepth 20000 in
set_option maxHeartbeats 4000000 in
theorem l_X10_feed_15 {G : Gx} {p : Program} {l : Launch} {e : Env} {s : State} {m : MethodId} {args : Array Value} {below : List Frame} {meth : Method} {c : Code} (C : Cx G p s m args meth c (some .int) 4 RX10 cX10_feed) (c1 : Int64) {σ' : St} {r : Int32} (kx49 : St → Option (Int32 × St)) (hkx49 : ∀  (τ : St), kx49  τ = some (r, σ') → Rt G p l e (lvl 0) s m args below meth c 0 0 (MQ below (va_Qi (fun a b => a = r ∧ b = σ') (Wd G) (AG G)) args s 0 0 (AG G)) 4 49 [(0, vR (0, 0, 0))] [] τ) : ∀ (n : Nat) (v3 : Int32) (τ : St), L_X10_feed_15 c1 n v3 τ kx49 = some (r, σ') → Rt G p l e (lvl 0) s m args below meth c 0 0 (MQ below (va_Qi (fun a b => a = r ∧ b = σ') (Wd G) (AG G)) args s 0 0 (AG G)) 4 15 [(0, vR (0, 0, 0)), (1, vL c1), (3, vI v3)] [] τ := by
  intro n
  induction n with
  | zero => intro v3 τ hF; cases hF
  | succ n ih =>
    intro v3 τ hF
    unfold L_X10_feed_15 at hF
    refine r_iload_n C 2 3 dX10_feed_15 rfl rfl ?_
    refine r_bipush (v := (8 : Int32)) C dX10_feed_16 rfl ?_
    refine r_icmp_ge C 49 dX10_feed_18 (by decide)  (fun h4 => ?_) (fun h4 => ?_)
    · have hF := if_t h4 hF
      refine r_drop (ls2 := [(0, vR (0, 0, 0))]) [0] rfl ?_
      exact hkx49 _ hF
    · have hF := if_f h4 hF
      refine r_aload_n C 0 0 dX10_feed_21 rfl rfl ?_
      refine r_getR (kf := 0) (d2 := (1, 0, 0)) C dX10_feed_22 rfl rfl f_X10 (by decide) t_2_95 rfl rfl ?_
      refine r_aload_n C 0 0 dX10_feed_25 rfl rfl ?_
      refine r_getI (kf := 1) C dX10_feed_26 rfl rfl f_X10 (by decide) t_2_96 rfl ?_
      refine r_iload_n C 2 3 dX10_feed_29 rfl rfl ?_
      refine r_iadd C dX10_feed_30 ?_
      refine r_lload_n C 1 1 dX10_feed_31 rfl rfl ?_
      refine r_bipush (v := (8 : Int32)) C dX10_feed_32 rfl ?_
      refine r_bipush (v := (7 : Int32)) C dX10_feed_34 rfl ?_
      refine r_iload_n C 2 3 dX10_feed_36 rfl rfl ?_
      refine r_isub C dX10_feed_37 ?_
      refine r_imul C dX10_feed_38 ?_
      refine r_lushr C dX10_feed_39 ?_
      refine r_l2i C dX10_feed_40 ?_
      refine r_i2b C dX10_feed_41 ?_
      obtain ⟨h1, hF⟩ := ck_e hF
      obtain ⟨σ2, eσ2, hF⟩ := nam_e hF
      refine r_bastore C (((τ.1 (0, 0, 0) 1) + v3).toNatClampNeg) dX10_feed_42 rfl h1 rfl eσ2 ?_
      obtain ⟨x3, ex3, hF⟩ := nam_e hF
      refine r_iinc (v := x3) (ls2 := [(3, vI x3), (0, vR (0, 0, 0)), (1, vL c1)]) C 2 dX10_feed_43 rfl ex3.symm (by decide) rfl ?_
      refine r_goto C 15 dX10_feed_46 (by decide) ?_
      refine r_drop (ls2 := [(0, vR (0, 0, 0)), (1, vL c1), (3, vI x3)]) [1, 2, 0] rfl ?_
      exact ih _ _ hF
set_option maxRecDepth 20000 in
set_option maxHeartbeats 4000000 in
theorem s_X10_feed (G : Gx) (l : Launch) {a1 : Int64} {σ σ' : St} {r : Int32} (hF : F_X10_feed a1 σ = some (r, σ')) : Sp G l yX10_feed cX10_feed 4 (some .int) (lvl 0) [vR (0, 0, 0), vL a1] σ (va_Qi (fun a b => a = r ∧ b = σ') (Wd G) (AG G)) := by
  refine Sp_of (own := RX10) (by decide) rfl (Nat.le_of_ble_eq_true rfl) ?_
  intro p e s m args below meth c C
  show Rt G p l e (lvl 0) s m args below meth c 0 0 (MQ below (va_Qi (fun a b => a = r ∧ b = σ') (Wd G) (AG G)) args s 0 0 (AG G)) 4 0 [(0, vR (0, 0, 0)), (1, vL a1)] [] σ
  unfold F_X10_feed at hF
  refine r_aload_n C 0 0 dX10_feed_0 rfl rfl ?_
  refine r_getI (kf := 1) C dX10_feed_1 rfl rfl f_X10 (by decide) t_2_96 rfl ?_
  refine r_sipush (v := (312 : Int32)) C dX10_feed_4 rfl ?_
  refine r_icmp_le C 13 dX10_feed_7 (by decide)  (fun h7 => ?_) (fun h7 => ?_)
  · have hF := if_t h7 hF
    refine r_iconst (v := (0 : Int32)) C dX10_feed_13 rfl ?_
    refine r_istore_n (ls2 := [(3, vI (0 : Int32)), (0, vR (0, 0, 0)), (1, vL a1)]) C dX10_feed_14 3 rfl (by decide) rfl ?_
    refine r_drop (ls2 := [(0, vR (0, 0, 0)), (1, vL a1), (3, vI (0 : Int32))]) [1, 2, 0] rfl ?_
    refine l_X10_feed_15 C a1 _ ?_ _ _ _ hF
    · intro  σ5 hF
      refine r_aload_n C 0 0 dX10_feed_49 rfl rfl ?_
      refine r_dup_r C dX10_feed_50 ?_
      refine r_getI (kf := 1) C dX10_feed_51 rfl rfl f_X10 (by decide) t_2_96 rfl ?_
      refine r_bipush (v := (8 : Int32)) C dX10_feed_54 rfl ?_
      refine r_iadd C dX10_feed_56 ?_
      obtain ⟨σ6, eσ6, hF⟩ := nam_e hF
      refine r_put (kf := 1) (ty0 := tyX10) C dX10_feed_57 rfl rfl f_X10 tyX10_ok nmX10 (by decide) t_2_96 rfl rfl rfl rfl eσ6 ?_
      refine r_aload_n C 0 0 dX10_feed_60 rfl rfl ?_
      refine r_getI (kf := 1) C dX10_feed_61 rfl rfl f_X10 (by decide) t_2_96 rfl ?_
      exact r_ireturn C dX10_feed_64 (rt_e hF)
  · have hF := if_f h7 hF
    refine r_bipush (v := (-3 : Int32)) C dX10_feed_10 rfl ?_
    exact r_ireturn C dX10_feed_12 (rt_e hF)
def F_X10_within (a0 : Int32) (a1 : Int32) (a2 : Int32) (σ : St) : Option (Int32 × St) :=
  (if a0 < a1 then some ((0 : Int32), σ) else (if a2 < a0 then some ((0 : Int32), σ) else some ((1 : Int32), σ)))
set_option maxRecDepth 20000 in
set_option maxHeartbeats 4000000 in
theorem s_X10_within (G : Gx) (l : Launch) {a0 : Int32} {a1 : Int32} {a2 : Int32} {σ σ' : St} {r : Int32} (hF : F_X10_within a0 a1 a2 σ = some (r, σ')) : Sp G l yX10_within cX10_within 3 (some .boolean) (lvl 0) [vI a0, vI a1, vI a2] σ (va_Qi (fun a b => a = r ∧ b = σ') (Wd G) (AG G)) := by
  refine Sp_of (own := RX10) (by decide) rfl (Nat.le_of_ble_eq_true rfl) ?_
  intro p e s m args below meth c C
  show Rt G p l e (lvl 0) s m args below meth c 0 0 (MQ below (va_Qi (fun a b => a = r ∧ b = σ') (Wd G) (AG G)) args s 0 0 (AG G)) 3 0 [(0, vI a0), (1, vI a1), (2, vI a2)] [] σ
  unfold F_X10_within at hF
  refine r_iload_n C 0 0 dX10_within_0 rfl rfl ?_
  refine r_iload_n C 1 1 dX10_within_1 rfl rfl ?_
  refine r_icmp_lt C 14 dX10_within_2 (by decide)  (fun h2 => ?_) (fun h2 => ?_)
  · have hF := if_t h2 hF
    refine r_iconst (v := (0 : Int32)) C dX10_within_14 rfl ?_
    exact r_zreturn C dX10_within_15 (nar_z (Or.inl rfl)) (rt_e hF)
  · have hF := if_f h2 hF
    refine r_iload_n C 0 0 dX10_within_5 rfl rfl ?_
    refine r_iload_n C 2 2 dX10_within_6 rfl rfl ?_
    refine r_icmp_gt C 14 dX10_within_7 (by decide)  (fun h1 => ?_) (fun h1 => ?_)
    · have hF := if_t h1 hF
      refine r_iconst (v := (0 : Int32)) C dX10_within_14 rfl ?_
      exact r_zreturn C dX10_within_15 (nar_z (Or.inl rfl)) (rt_e hF)
    · have hF := if_f h1 hF
      refine r_iconst (v := (1 : Int32)) C dX10_within_10 rfl ?_
      refine r_goto C 15 dX10_within_11 (by decide) ?_
      exact r_zreturn C dX10_within_15 (nar_z (Or.inr rfl)) (rt_e hF)
def F_X10_end (a1 : Int32) (σ : St) : Option (Int32 × St) :=
  bd (F_X10_within a1 (0 : Int32) (σ.1 (0, 0, 0) 1) σ) fun r2 σ1 => (if r2 = 0 then some ((-1 : Int32), σ1) else nam (σ1.1 (0, 0, 0) 1) fun x4 => nam (uI σ1 (0, 0, 0) 1 a1) fun σ5 => some (x4, σ5))
set_option maxRecDepth 20000 in
set_option maxHeartbeats 4000000 in
theorem s_X10_end (G : Gx) (l : Launch) {a1 : Int32} {σ σ' : St} {r : Int32} (hF : F_X10_end a1 σ = some (r, σ')) : Sp G l yX10_end cX10_end 3 (some .int) (lvl 1) [vR (0, 0, 0), vI a1] σ (va_Qi (fun a b => a = r ∧ b = σ') (Wd G) (AG G)) := by
  refine Sp_of (own := RX10) (by decide) rfl (Nat.le_of_ble_eq_true rfl) ?_
  intro p e s m args below meth c C
  show Rt G p l e (lvl 1) s m args below meth c 0 0 (MQ below (va_Qi (fun a b => a = r ∧ b = σ') (Wd G) (AG G)) args s 0 0 (AG G)) 3 0 [(0, vR (0, 0, 0)), (1, vI a1)] [] σ
  unfold F_X10_end at hF
  refine r_iload_n C 1 1 dX10_end_0 rfl rfl ?_
  refine r_iconst (v := (0 : Int32)) C dX10_end_1 rfl ?_
  refine r_aload_n C 0 0 dX10_end_2 rfl rfl ?_
  refine r_getI (kf := 1) C dX10_end_3 rfl rfl f_X10 (by decide) t_2_96 rfl ?_
  obtain ⟨r2, σ1, e3, hF⟩ := bd_e hF
  refine r_callS_i (as := [vI a1, vI (0 : Int32), vI (σ.1 (0, 0, 0) 1)]) (st := []) C dX10_end_6 (s_X10_within G l e3) t_2_143 t_2_144 t_1_1 t_2_145 m_X10_within ⟨Nat.le_of_ble_eq_true rfl, Nat.le_of_ble_eq_true rfl⟩ ⟨rfl, rfl⟩ ⟨Nat.zero_le _, Nat.zero_le _⟩ rfl (Nat.le_of_ble_eq_true rfl) ?_
  refine r_if_ne C 14 dX10_end_9 (by decide)  (fun h6 => ?_) (fun h6 => ?_)
  · have hF := if_f h6 hF
    refine r_aload_n C 0 0 dX10_end_14 rfl rfl ?_
    refine r_getI (kf := 1) C dX10_end_15 rfl rfl f_X10 (by decide) t_2_96 rfl ?_
    obtain ⟨x4, ex4, hF⟩ := nam_e hF
    refine r_topI ex4 ?_
    refine r_istore_n (ls2 := [(2, vI x4), (0, vR (0, 0, 0)), (1, vI a1)]) C dX10_end_18 2 rfl (by decide) rfl ?_
    refine r_aload_n C 1 0 dX10_end_19 rfl rfl ?_
    refine r_iload_n C 2 1 dX10_end_20 rfl rfl ?_
    obtain ⟨σ5, eσ5, hF⟩ := nam_e hF
    refine r_put (kf := 1) (ty0 := tyX10) C dX10_end_21 rfl rfl f_X10 tyX10_ok nmX10 (by decide) t_2_96 rfl rfl rfl rfl eσ5 ?_
    refine r_iload_n C 0 2 dX10_end_24 rfl rfl ?_
    exact r_ireturn C dX10_end_25 (rt_e hF)
  · have hF := if_t h6 hF
    refine r_iconst (v := (-1 : Int32)) C dX10_end_12 rfl ?_
    exact r_ireturn C dX10_end_13 (rt_e hF)
def F_X10_fault  (σ : St) : Option (Int32 × St) :=
  some (σ.1 (0, 0, 0) 3, σ)
set_option maxRecDepth 20000 in
set_option maxHeartbeats 4000000 in
theorem s_X10_fault (G : Gx) (l : Launch)  {σ σ' : St} {r : Int32} (hF : F_X10_fault  σ = some (r, σ')) : Sp G l yX10_fault cX10_fault 1 (some .int) (lvl 0) [vR (0, 0, 0)] σ (va_Qi (fun a b => a = r ∧ b = σ') (Wd G) (AG G)) := by
  refine Sp_of (own := RX10) (by decide) rfl (Nat.le_of_ble_eq_true rfl) ?_
  intro p e s m args below meth c C
  show Rt G p l e (lvl 0) s m args below meth c 0 0 (MQ below (va_Qi (fun a b => a = r ∧ b = σ') (Wd G) (AG G)) args s 0 0 (AG G)) 1 0 [(0, vR (0, 0, 0))] [] σ
  unfold F_X10_fault at hF
  refine r_aload_n C 0 0 dX10_fault_0 rfl rfl ?_
  refine r_getI (kf := 3) C dX10_fault_1 rfl rfl f_X10 (by decide) t_2_98 rfl ?_
  exact r_ireturn C dX10_fault_4 (rt_e hF)
def F_X5_value (q0 : Nat) (a1 : Int32) (σ : St) : Option (Int32 × St) :=
  (if a1 < 0 then some ((0 : Int32), σ) else (if (9 : Int32) ≤ a1 then some ((0 : Int32), σ) else ck (inb a1 9) (some (σ.1 (4, q0, 0) (a1.toNatClampNeg), σ))))
set_option maxRecDepth 20000 in
set_option maxHeartbeats 4000000 in
theorem s_X5_value (G : Gx) (l : Launch) {q0 : Nat} {a1 : Int32} {σ σ' : St} {r : Int32} (hF : F_X5_value q0 a1 σ = some (r, σ')) : Sp G l yX5_value cX5_value 2 (some .int) (lvl 0) [vR (3, q0, 0), vI a1] σ (va_Qi (fun a b => a = r ∧ b = σ') (Wd G) (AG G)) := by
  refine Sp_of (own := RX5) (by decide) rfl (Nat.le_of_ble_eq_true rfl) ?_
  intro p e s m args below meth c C
  show Rt G p l e (lvl 0) s m args below meth c 0 0 (MQ below (va_Qi (fun a b => a = r ∧ b = σ') (Wd G) (AG G)) args s 0 0 (AG G)) 2 0 [(0, vR (3, q0, 0)), (1, vI a1)] [] σ
  unfold F_X5_value at hF
  refine r_iload_n C 1 1 dX5_value_0 rfl rfl ?_
  refine r_if_lt C 19 dX5_value_1 (by decide)  (fun h3 => ?_) (fun h3 => ?_)
  · have hF := if_t h3 hF
    refine r_iconst (v := (0 : Int32)) C dX5_value_19 rfl ?_
    exact r_ireturn C dX5_value_20 (rt_e hF)
  · have hF := if_f h3 hF
    refine r_iload_n C 1 1 dX5_value_4 rfl rfl ?_
    refine r_bipush (v := (9 : Int32)) C dX5_value_5 rfl ?_
    refine r_icmp_ge C 19 dX5_value_7 (by decide)  (fun h2 => ?_) (fun h2 => ?_)
    · have hF := if_t h2 hF
      refine r_iconst (v := (0 : Int32)) C dX5_value_19 rfl ?_
      exact r_ireturn C dX5_value_20 (rt_e hF)
    · have hF := if_f h2 hF
      refine r_aload_n C 0 0 dX5_value_10 rfl rfl ?_
      refine r_getR (kf := 0) (d2 := (4, q0, 0)) C dX5_value_11 rfl rfl f_X5 (by decide) t_1_50 rfl rfl ?_
      refine r_iload_n C 1 1 dX5_value_14 rfl rfl ?_
      obtain ⟨h1, hF⟩ := ck_e hF
      refine r_iaload C (a1.toNatClampNeg) dX5_value_15 rfl h1 rfl ?_
      refine r_goto C 20 dX5_value_16 (by decide) ?_
      exact r_ireturn C dX5_value_20 (rt_e hF)
def F_X10_rule (a1 : Int32) (σ : St) : Option (Int32 × St) :=
  bd (F_X10_within a1 (0 : Int32) (8 : Int32) σ) fun r2 σ1 => (if r2 = 0 then some ((-1 : Int32), σ1) else bd (F_X5_value 0 a1 σ1) fun r5 σ4 => some (r5, σ4))
set_option maxRecDepth 20000 in
set_option maxHeartbeats 4000000 in
theorem s_X10_rule (G : Gx) (l : Launch) {a1 : Int32} {σ σ' : St} {r : Int32} (hF : F_X10_rule a1 σ = some (r, σ')) : Sp G l yX10_rule cX10_rule 2 (some .int) (lvl 1) [vR (0, 0, 0), vI a1] σ (va_Qi (fun a b => a = r ∧ b = σ') (Wd G) (AG G)) := by
  refine Sp_of (own := RX10) (by decide) rfl (Nat.le_of_ble_eq_true rfl) ?_
  intro p e s m args below meth c C
  show Rt G p l e (lvl 1) s m args below meth c 0 0 (MQ below (va_Qi (fun a b => a = r ∧ b = σ') (Wd G) (AG G)) args s 0 0 (AG G)) 2 0 [(0, vR (0, 0, 0)), (1, vI a1)] [] σ
  unfold F_X10_rule at hF
  refine r_iload_n C 1 1 dX10_rule_0 rfl rfl ?_
  refine r_iconst (v := (0 : Int32)) C dX10_rule_1 rfl ?_
  refine r_bipush (v := (8 : Int32)) C dX10_rule_2 rfl ?_
  obtain ⟨r2, σ1, e3, hF⟩ := bd_e hF
  refine r_callS_i (as := [vI a1, vI (0 : Int32), vI (8 : Int32)]) (st := []) C dX10_rule_4 (s_X10_within G l e3) t_2_143 t_2_144 t_1_1 t_2_145 m_X10_within ⟨Nat.le_of_ble_eq_true rfl, Nat.le_of_ble_eq_true rfl⟩ ⟨rfl, rfl⟩ ⟨Nat.zero_le _, Nat.zero_le _⟩ rfl (Nat.le_of_ble_eq_true rfl) ?_
  refine r_if_eq C 21 dX10_rule_7 (by decide)  (fun h7 => ?_) (fun h7 => ?_)
  · have hF := if_t h7 hF
    refine r_iconst (v := (-1 : Int32)) C dX10_rule_21 rfl ?_
    exact r_ireturn C dX10_rule_22 (rt_e hF)
  · have hF := if_f h7 hF
    refine r_aload_n C 0 0 dX10_rule_10 rfl rfl ?_
    refine r_getR (kf := 4) (d2 := (3, 0, 0)) C dX10_rule_11 rfl rfl f_X10 (by decide) t_2_99 rfl rfl ?_
    refine r_iload_n C 1 1 dX10_rule_14 rfl rfl ?_
    obtain ⟨r5, σ4, e6, hF⟩ := bd_e hF
    refine r_callV_i (as := [vI a1]) (st := []) C dX10_rule_15 (s_X5_value G l e6) rfl rfl rfl t_3_115 t_3_90 t_3_91 t_1_3 t_3_92 m_X5_value ⟨Nat.le_of_ble_eq_true rfl, Nat.le_of_ble_eq_true rfl⟩ ⟨rfl, rfl⟩ ⟨Nat.zero_le _, Nat.zero_le _⟩ rfl (Nat.le_of_ble_eq_true rfl) ?_
    refine r_goto C 22 dX10_rule_18 (by decide) ?_
    exact r_ireturn C dX10_rule_22 (rt_e hF)
def F_X10_isCell (a0 : Int32) (σ : St) : Option (Int32 × St) :=
  (if a0 < 0 then some ((0 : Int32), σ) else (if (96 : Int32) ≤ a0 then some ((0 : Int32), σ) else some ((1 : Int32), σ)))
set_option maxRecDepth 20000 in
set_option maxHeartbeats 4000000 in
theorem s_X10_isCell (G : Gx) (l : Launch) {a0 : Int32} {σ σ' : St} {r : Int32} (hF : F_X10_isCell a0 σ = some (r, σ')) : Sp G l yX10_isCell cX10_isCell 1 (some .boolean) (lvl 0) [vI a0] σ (va_Qi (fun a b => a = r ∧ b = σ') (Wd G) (AG G)) := by
  refine Sp_of (own := RX10) (by decide) rfl (Nat.le_of_ble_eq_true rfl) ?_
  intro p e s m args below meth c C
  show Rt G p l e (lvl 0) s m args below meth c 0 0 (MQ below (va_Qi (fun a b => a = r ∧ b = σ') (Wd G) (AG G)) args s 0 0 (AG G)) 1 0 [(0, vI a0)] [] σ
  unfold F_X10_isCell at hF
  refine r_iload_n C 0 0 dX10_isCell_0 rfl rfl ?_
  refine r_if_lt C 14 dX10_isCell_1 (by decide)  (fun h2 => ?_) (fun h2 => ?_)
  · have hF := if_t h2 hF
    refine r_iconst (v := (0 : Int32)) C dX10_isCell_14 rfl ?_
    exact r_zreturn C dX10_isCell_15 (nar_z (Or.inl rfl)) (rt_e hF)
  · have hF := if_f h2 hF
    refine r_iload_n C 0 0 dX10_isCell_4 rfl rfl ?_
    refine r_bipush (v := (96 : Int32)) C dX10_isCell_5 rfl ?_
    refine r_icmp_ge C 14 dX10_isCell_7 (by decide)  (fun h1 => ?_) (fun h1 => ?_)
    · have hF := if_t h1 hF
      refine r_iconst (v := (0 : Int32)) C dX10_isCell_14 rfl ?_
      exact r_zreturn C dX10_isCell_15 (nar_z (Or.inl rfl)) (rt_e hF)
    · have hF := if_f h1 hF
      refine r_iconst (v := (1 : Int32)) C dX10_isCell_10 rfl ?_
      refine r_goto C 15 dX10_isCell_11 (by decide) ?_
      exact r_zreturn C dX10_isCell_15 (nar_z (Or.inr rfl)) (rt_e hF)
def F_X6_kindAt (q0 : Nat) (a1 : Int32) (σ : St) : Option (Int32 × St) :=
  (if a1 < 0 then some ((5 : Int32), σ) else (if (96 : Int32) ≤ a1 then some ((5 : Int32), σ) else ck (inb a1 96) (some (σ.1 (8, q0, 0) (a1.toNatClampNeg), σ))))
set_option maxRecDepth 20000 in
set_option maxHeartbeats 4000000 in
theorem s_X6_kindAt (G : Gx) (l : Launch) {q0 : Nat} {a1 : Int32} {σ σ' : St} {r : Int32} (hF : F_X6_kindAt q0 a1 σ = some (r, σ')) : Sp G l yX6_kindAt cX6_kindAt 2 (some .int) (lvl 0) [vR (7, q0, 0), vI a1] σ (va_Qi (fun a b => a = r ∧ b = σ') (Wd G) (AG G)) := by
  refine Sp_of (own := RX6) (by decide) rfl (Nat.le_of_ble_eq_true rfl) ?_
  intro p e s m args below meth c C
  show Rt G p l e (lvl 0) s m args below meth c 0 0 (MQ below (va_Qi (fun a b => a = r ∧ b = σ') (Wd G) (AG G)) args s 0 0 (AG G)) 2 0 [(0, vR (7, q0, 0)), (1, vI a1)] [] σ
  unfold F_X6_kindAt at hF
  refine r_iload_n C 1 1 dX6_kindAt_0 rfl rfl ?_
  refine r_if_lt C 19 dX6_kindAt_1 (by decide)  (fun h3 => ?_) (fun h3 => ?_)
  · have hF := if_t h3 hF
    refine r_iconst (v := (5 : Int32)) C dX6_kindAt_19 rfl ?_
    exact r_ireturn C dX6_kindAt_20 (rt_e hF)
  · have hF := if_f h3 hF
    refine r_iload_n C 1 1 dX6_kindAt_4 rfl rfl ?_
    refine r_bipush (v := (96 : Int32)) C dX6_kindAt_5 rfl ?_
    refine r_icmp_ge C 19 dX6_kindAt_7 (by decide)  (fun h2 => ?_) (fun h2 => ?_)
    · have hF := if_t h2 hF
      refine r_iconst (v := (5 : Int32)) C dX6_kindAt_19 rfl ?_
      exact r_ireturn C dX6_kindAt_20 (rt_e hF)
    · have hF := if_f h2 hF
      refine r_aload_n C 0 0 dX6_kindAt_10 rfl rfl ?_
      refine r_getR (kf := 0) (d2 := (8, q0, 0)) C dX6_kindAt_11 rfl rfl f_X6 (by decide) t_1_152 rfl rfl ?_
      refine r_iload_n C 1 1 dX6_kindAt_14 rfl rfl ?_
      obtain ⟨h1, hF⟩ := ck_e hF
      refine r_iaload C (a1.toNatClampNeg) dX6_kindAt_15 rfl h1 rfl ?_
      refine r_goto C 20 dX6_kindAt_16 (by decide) ?_
      exact r_ireturn C dX6_kindAt_20 (rt_e hF)
def F_X10_cell (a1 : Int32) (σ : St) : Option (Int32 × St) :=
  bd (F_X10_isCell a1 σ) fun r2 σ1 => (if r2 = 0 then some ((-1 : Int32), σ1) else bd (F_X6_kindAt 0 a1 σ1) fun r5 σ4 => some (r5, σ4))
set_option maxRecDepth 20000 in
set_option maxHeartbeats 4000000 in
theorem s_X10_cell (G : Gx) (l : Launch) {a1 : Int32} {σ σ' : St} {r : Int32} (hF : F_X10_cell a1 σ = some (r, σ')) : Sp G l yX10_cell cX10_cell 2 (some .int) (lvl 1) [vR (0, 0, 0), vI a1] σ (va_Qi (fun a b => a = r ∧ b = σ') (Wd G) (AG G)) := by
  refine Sp_of (own := RX10) (by decide) rfl (Nat.le_of_ble_eq_true rfl) ?_
  intro p e s m args below meth c C
  show Rt G p l e (lvl 1) s m args below meth c 0 0 (MQ below (va_Qi (fun a b => a = r ∧ b = σ') (Wd G) (AG G)) args s 0 0 (AG G)) 2 0 [(0, vR (0, 0, 0)), (1, vI a1)] [] σ
  unfold F_X10_cell at hF
  refine r_iload_n C 1 1 dX10_cell_0 rfl rfl ?_
  obtain ⟨r2, σ1, e3, hF⟩ := bd_e hF
  refine r_callS_i (as := [vI a1]) (st := []) C dX10_cell_1 (s_X10_isCell G l e3) t_3_120 t_3_121 t_1_1 t_3_122 m_X10_isCell ⟨Nat.le_of_ble_eq_true rfl, Nat.le_of_ble_eq_true rfl⟩ ⟨rfl, rfl⟩ ⟨Nat.zero_le _, Nat.zero_le _⟩ rfl (Nat.le_of_ble_eq_true rfl) ?_
  refine r_if_eq C 18 dX10_cell_4 (by decide)  (fun h7 => ?_) (fun h7 => ?_)
  · have hF := if_t h7 hF
    refine r_iconst (v := (-1 : Int32)) C dX10_cell_18 rfl ?_
    exact r_ireturn C dX10_cell_19 (rt_e hF)
  · have hF := if_f h7 hF
    refine r_aload_n C 0 0 dX10_cell_7 rfl rfl ?_
    refine r_getR (kf := 5) (d2 := (7, 0, 0)) C dX10_cell_8 rfl rfl f_X10 (by decide) t_2_100 rfl rfl ?_
    refine r_iload_n C 1 1 dX10_cell_11 rfl rfl ?_
    obtain ⟨r5, σ4, e6, hF⟩ := bd_e hF
    refine r_callV_i (as := [vI a1]) (st := []) C dX10_cell_12 (s_X6_kindAt G l e6) rfl rfl rfl t_3_123 t_3_124 t_3_125 t_1_5 t_3_126 m_X6_kindAt ⟨Nat.le_of_ble_eq_true rfl, Nat.le_of_ble_eq_true rfl⟩ ⟨rfl, rfl⟩ ⟨Nat.zero_le _, Nat.zero_le _⟩ rfl (Nat.le_of_ble_eq_true rfl) ?_
    refine r_goto C 19 dX10_cell_15 (by decide) ?_
    exact r_ireturn C dX10_cell_19 (rt_e hF)
def L_X6_dropAt_2 (q0 : Nat) (c1 : Int32) : Nat → Int32 → St → Option (Int32 × St)
  | 0, _, _ => none
  | n + 1, v2, τ =>
  (if (τ.1 (7, q0, 0) 2) ≤ v2 then some ((-4 : Int32), τ) else ck (inb v2 12) ((if (τ.1 (10, q0, (v2.toNatClampNeg)) 3) = 0 then ck (inb v2 12) ((if (τ.1 (10, q0, (v2.toNatClampNeg)) 0) = c1 then some (v2, τ) else nam (v2 + (1 : Int32)) fun x4 => L_X6_dropAt_2 q0 c1 n x4 τ)) else nam (v2 + (1 : Int32)) fun x2 => L_X6_dropAt_2 q0 c1 n x2 τ)))
def F_X6_dropAt (q0 : Nat) (a1 : Int32) (σ : St) : Option (Int32 × St) :=
  L_X6_dropAt_2 q0 a1 FU (0 : Int32) σ 
set_option maxRecDepth 20000 in
set_option maxHeartbeats 4000000 in
theorem l_X6_dropAt_2 {G : Gx} {p : Program} {l : Launch} {e : Env} {s : State} {m : MethodId} {args : Array Value} {below : List Frame} {meth : Method} {c : Code} (C : Cx G p s m args meth c (some .int) 3 RX6 cX6_dropAt) (q0 : Nat) (c1 : Int32) {σ' : St} {r : Int32} : ∀ (n : Nat) (v2 : Int32) (τ : St), L_X6_dropAt_2 q0 c1 n v2 τ = some (r, σ') → Rt G p l e (lvl 0) s m args below meth c 0 0 (MQ below (va_Qi (fun a b => a = r ∧ b = σ') (Wd G) (AG G)) args s 0 0 (AG G)) 3 2 [(0, vR (7, q0, 0)), (1, vI c1), (2, vI v2)] [] τ := by
  intro n
  induction n with
  | zero => intro v2 τ hF; cases hF
  | succ n ih =>
    intro v2 τ hF
    unfold L_X6_dropAt_2 at hF
    refine r_iload_n C 2 2 dX6_dropAt_2 rfl rfl ?_
    refine r_aload_n C 0 0 dX6_dropAt_3 rfl rfl ?_
    refine r_getI (kf := 2) C dX6_dropAt_4 rfl rfl f_X6 (by decide) t_1_158 rfl ?_
    refine r_icmp_ge C 43 dX6_dropAt_7 (by decide)  (fun h7 => ?_) (fun h7 => ?_)
    · have hF := if_t h7 hF
      refine r_bipush (v := (-4 : Int32)) C dX6_dropAt_43 rfl ?_
      exact r_ireturn C dX6_dropAt_45 (rt_e hF)
    · have hF := if_f h7 hF
      refine r_aload_n C 0 0 dX6_dropAt_10 rfl rfl ?_
      refine r_getR (kf := 1) (d2 := (9, q0, 0)) C dX6_dropAt_11 rfl rfl f_X6 (by decide) t_1_155 rfl rfl ?_
      refine r_iload_n C 2 2 dX6_dropAt_14 rfl rfl ?_
      obtain ⟨h1, hF⟩ := ck_e hF
      refine r_aaload (cA := 0) (d2 := (10, q0, (v2.toNatClampNeg))) C dX6_dropAt_15 rfl rfl h1 rfl ?_
      refine r_getI (kf := 3) C dX6_dropAt_16 rfl rfl f_X0 (by decide) t_1_131 rfl ?_
      refine r_if_ne C 37 dX6_dropAt_19 (by decide)  (fun h6 => ?_) (fun h6 => ?_)
      · have hF := if_f h6 hF
        obtain ⟨x2, ex2, hF⟩ := nam_e hF
        refine r_iinc (v := x2) (ls2 := [(2, vI x2), (0, vR (7, q0, 0)), (1, vI c1)]) C 2 dX6_dropAt_37 rfl ex2.symm (by decide) rfl ?_
        refine r_goto C 2 dX6_dropAt_40 (by decide) ?_
        refine r_drop (ls2 := [(0, vR (7, q0, 0)), (1, vI c1), (2, vI x2)]) [1, 2, 0] rfl ?_
        exact ih _ _ hF
      · have hF := if_t h6 hF
        refine r_aload_n C 0 0 dX6_dropAt_22 rfl rfl ?_
        refine r_getR (kf := 1) (d2 := (9, q0, 0)) C dX6_dropAt_23 rfl rfl f_X6 (by decide) t_1_155 rfl rfl ?_
        refine r_iload_n C 2 2 dX6_dropAt_26 rfl rfl ?_
        obtain ⟨h3, hF⟩ := ck_e hF
        refine r_aaload (cA := 0) (d2 := (10, q0, (v2.toNatClampNeg))) C dX6_dropAt_27 rfl rfl h3 rfl ?_
        refine r_getI (kf := 0) C dX6_dropAt_28 rfl rfl f_X0 (by decide) t_1_120 rfl ?_
        refine r_iload_n C 1 1 dX6_dropAt_31 rfl rfl ?_
        refine r_icmp_ne C 37 dX6_dropAt_32 (by decide)  (fun h5 => ?_) (fun h5 => ?_)
        · have hF := if_f h5 hF
          obtain ⟨x4, ex4, hF⟩ := nam_e hF
          refine r_iinc (v := x4) (ls2 := [(2, vI x4), (0, vR (7, q0, 0)), (1, vI c1)]) C 2 dX6_dropAt_37 rfl ex4.symm (by decide) rfl ?_
          refine r_goto C 2 dX6_dropAt_40 (by decide) ?_
          refine r_drop (ls2 := [(0, vR (7, q0, 0)), (1, vI c1), (2, vI x4)]) [1, 2, 0] rfl ?_
          exact ih _ _ hF
        · have hF := if_t h5 hF
          refine r_iload_n C 2 2 dX6_dropAt_35 rfl rfl ?_
          exact r_ireturn C dX6_dropAt_36 (rt_e hF)
set_option maxRecDepth 20000 in
set_option maxHeartbeats 4000000 in
theorem s_X6_dropAt (G : Gx) (l : Launch) {q0 : Nat} {a1 : Int32} {σ σ' : St} {r : Int32} (hF : F_X6_dropAt q0 a1 σ = some (r, σ')) : Sp G l yX6_dropAt cX6_dropAt 3 (some .int) (lvl 0) [vR (7, q0, 0), vI a1] σ (va_Qi (fun a b => a = r ∧ b = σ') (Wd G) (AG G)) := by
  refine Sp_of (own := RX6) (by decide) rfl (Nat.le_of_ble_eq_true rfl) ?_
  intro p e s m args below meth c C
  show Rt G p l e (lvl 0) s m args below meth c 0 0 (MQ below (va_Qi (fun a b => a = r ∧ b = σ') (Wd G) (AG G)) args s 0 0 (AG G)) 3 0 [(0, vR (7, q0, 0)), (1, vI a1)] [] σ
  unfold F_X6_dropAt at hF
  refine r_iconst (v := (0 : Int32)) C dX6_dropAt_0 rfl ?_
  refine r_istore_n (ls2 := [(2, vI (0 : Int32)), (0, vR (7, q0, 0)), (1, vI a1)]) C dX6_dropAt_1 2 rfl (by decide) rfl ?_
  refine r_drop (ls2 := [(0, vR (7, q0, 0)), (1, vI a1), (2, vI (0 : Int32))]) [1, 2, 0] rfl ?_
  refine l_X6_dropAt_2 C q0 a1  _ _ _ hF
def F_X10_put (a1 : Int32) (a2 : Int32) (σ : St) : Option (Int32 × St) :=
  bd (F_X10_isCell a1 σ) fun r2 σ1 => (if r2 = 0 then some ((-1 : Int32), σ1) else bd (F_X10_within a2 (0 : Int32) (7 : Int32) σ1) fun r5 σ4 => (if r5 = 0 then some ((-1 : Int32), σ4) else (if a2 = (5 : Int32) then bd (F_X6_dropAt 0 a1 σ4) fun r8 σ7 => (if r8 = (-4 : Int32) then ck (inb a1 96) (nam (σ7.1 (8, 0, 0) (a1.toNatClampNeg)) fun x11 => ck (inb a1 96) (nam (uI σ7 (8, 0, 0) (a1.toNatClampNeg) a2) fun σ13 => some (x11, σ13))) else some ((-2 : Int32), σ7)) else (if a2 = (6 : Int32) then bd (F_X6_dropAt 0 a1 σ4) fun r20 σ19 => (if r20 = (-4 : Int32) then ck (inb a1 96) (nam (σ19.1 (8, 0, 0) (a1.toNatClampNeg)) fun x23 => ck (inb a1 96) (nam (uI σ19 (8, 0, 0) (a1.toNatClampNeg) a2) fun σ25 => some (x23, σ25))) else some ((-2 : Int32), σ19)) else ck (inb a1 96) (nam (σ4.1 (8, 0, 0) (a1.toNatClampNeg)) fun x16 => ck (inb a1 96) (nam (uI σ4 (8, 0, 0) (a1.toNatClampNeg) a2) fun σ18 => some (x16, σ18)))))))
set_option maxRecDepth 20000 in
set_option maxHeartbeats 4000000 in
theorem s_X10_put (G : Gx) (l : Launch) {a1 : Int32} {a2 : Int32} {σ σ' : St} {r : Int32} (hF : F_X10_put a1 a2 σ = some (r, σ')) : Sp G l yX10_put cX10_put 4 (some .int) (lvl 1) [vR (0, 0, 0), vI a1, vI a2] σ (va_Qi (fun a b => a = r ∧ b = σ') (Wd G) (AG G)) := by
  refine Sp_of (own := RX10) (by decide) rfl (Nat.le_of_ble_eq_true rfl) ?_
  intro p e s m args below meth c C
  show Rt G p l e (lvl 1) s m args below meth c 0 0 (MQ below (va_Qi (fun a b => a = r ∧ b = σ') (Wd G) (AG G)) args s 0 0 (AG G)) 4 0 [(0, vR (0, 0, 0)), (1, vI a1), (2, vI a2)] [] σ
  unfold F_X10_put at hF
  refine r_iload_n C 1 1 dX10_put_0 rfl rfl ?_
  obtain ⟨r2, σ1, e3, hF⟩ := bd_e hF
  refine r_callS_i (as := [vI a1]) (st := []) C dX10_put_1 (s_X10_isCell G l e3) t_3_120 t_3_121 t_1_1 t_3_122 m_X10_isCell ⟨Nat.le_of_ble_eq_true rfl, Nat.le_of_ble_eq_true rfl⟩ ⟨rfl, rfl⟩ ⟨Nat.zero_le _, Nat.zero_le _⟩ rfl (Nat.le_of_ble_eq_true rfl) ?_
  refine r_if_eq C 17 dX10_put_4 (by decide)  (fun h30 => ?_) (fun h30 => ?_)
  · have hF := if_t h30 hF
    refine r_iconst (v := (-1 : Int32)) C dX10_put_17 rfl ?_
    exact r_ireturn C dX10_put_18 (rt_e hF)
  · have hF := if_f h30 hF
    refine r_iload_n C 2 2 dX10_put_7 rfl rfl ?_
    refine r_iconst (v := (0 : Int32)) C dX10_put_8 rfl ?_
    refine r_bipush (v := (7 : Int32)) C dX10_put_9 rfl ?_
    obtain ⟨r5, σ4, e6, hF⟩ := bd_e hF
    refine r_callS_i (as := [vI a2, vI (0 : Int32), vI (7 : Int32)]) (st := []) C dX10_put_11 (s_X10_within G l e6) t_2_143 t_2_144 t_1_1 t_2_145 m_X10_within ⟨Nat.le_of_ble_eq_true rfl, Nat.le_of_ble_eq_true rfl⟩ ⟨rfl, rfl⟩ ⟨Nat.zero_le _, Nat.zero_le _⟩ rfl (Nat.le_of_ble_eq_true rfl) ?_
    refine r_if_ne C 19 dX10_put_14 (by decide)  (fun h29 => ?_) (fun h29 => ?_)
    · have hF := if_f h29 hF
      refine r_iload_n C 2 2 dX10_put_19 rfl rfl ?_
      refine r_iconst (v := (5 : Int32)) C dX10_put_20 rfl ?_
      refine r_icmp_eq C 30 dX10_put_21 (by decide)  (fun h28 => ?_) (fun h28 => ?_)
      · have hF := if_t h28 hF
        refine r_aload_n C 0 0 dX10_put_30 rfl rfl ?_
        refine r_getR (kf := 5) (d2 := (7, 0, 0)) C dX10_put_31 rfl rfl f_X10 (by decide) t_2_100 rfl rfl ?_
        refine r_iload_n C 1 1 dX10_put_34 rfl rfl ?_
        obtain ⟨r8, σ7, e9, hF⟩ := bd_e hF
        refine r_callV_i (as := [vI a1]) (st := []) C dX10_put_35 (s_X6_dropAt G l e9) rfl rfl rfl t_3_131 t_3_132 t_3_133 t_1_5 t_3_134 m_X6_dropAt ⟨Nat.le_of_ble_eq_true rfl, Nat.le_of_ble_eq_true rfl⟩ ⟨rfl, rfl⟩ ⟨Nat.zero_le _, Nat.zero_le _⟩ rfl (Nat.le_of_ble_eq_true rfl) ?_
        refine r_bipush (v := (-4 : Int32)) C dX10_put_38 rfl ?_
        refine r_icmp_eq C 46 dX10_put_40 (by decide)  (fun h14 => ?_) (fun h14 => ?_)
        · have hF := if_t h14 hF
          refine r_aload_n C 0 0 dX10_put_46 rfl rfl ?_
          refine r_getR (kf := 5) (d2 := (7, 0, 0)) C dX10_put_47 rfl rfl f_X10 (by decide) t_2_100 rfl rfl ?_
          refine r_getR (kf := 0) (d2 := (8, 0, 0)) C dX10_put_50 rfl rfl f_X6 (by decide) t_1_154 rfl rfl ?_
          refine r_iload_n C 1 1 dX10_put_53 rfl rfl ?_
          obtain ⟨h10, hF⟩ := ck_e hF
          refine r_iaload C (a1.toNatClampNeg) dX10_put_54 rfl h10 rfl ?_
          obtain ⟨x11, ex11, hF⟩ := nam_e hF
          refine r_topI ex11 ?_
          refine r_istore_n (ls2 := [(3, vI x11), (0, vR (0, 0, 0)), (1, vI a1), (2, vI a2)]) C dX10_put_55 3 rfl (by decide) rfl ?_
          refine r_aload_n C 1 0 dX10_put_56 rfl rfl ?_
          refine r_getR (kf := 5) (d2 := (7, 0, 0)) C dX10_put_57 rfl rfl f_X10 (by decide) t_2_100 rfl rfl ?_
          refine r_getR (kf := 0) (d2 := (8, 0, 0)) C dX10_put_60 rfl rfl f_X6 (by decide) t_1_154 rfl rfl ?_
          refine r_iload_n C 2 1 dX10_put_63 rfl rfl ?_
          refine r_iload_n C 3 2 dX10_put_64 rfl rfl ?_
          obtain ⟨h12, hF⟩ := ck_e hF
          obtain ⟨σ13, eσ13, hF⟩ := nam_e hF
          refine r_iastore C (a1.toNatClampNeg) dX10_put_65 rfl h12 rfl eσ13 ?_
          refine r_iload_n C 0 3 dX10_put_66 rfl rfl ?_
          exact r_ireturn C dX10_put_67 (rt_e hF)
        · have hF := if_f h14 hF
          refine r_bipush (v := (-2 : Int32)) C dX10_put_43 rfl ?_
          exact r_ireturn C dX10_put_45 (rt_e hF)
      · have hF := if_f h28 hF
        refine r_iload_n C 2 2 dX10_put_24 rfl rfl ?_
        refine r_bipush (v := (6 : Int32)) C dX10_put_25 rfl ?_
        refine r_icmp_ne C 46 dX10_put_27 (by decide)  (fun h27 => ?_) (fun h27 => ?_)
        · have hF := if_f h27 hF
          refine r_aload_n C 0 0 dX10_put_46 rfl rfl ?_
          refine r_getR (kf := 5) (d2 := (7, 0, 0)) C dX10_put_47 rfl rfl f_X10 (by decide) t_2_100 rfl rfl ?_
          refine r_getR (kf := 0) (d2 := (8, 0, 0)) C dX10_put_50 rfl rfl f_X6 (by decide) t_1_154 rfl rfl ?_
          refine r_iload_n C 1 1 dX10_put_53 rfl rfl ?_
          obtain ⟨h15, hF⟩ := ck_e hF
          refine r_iaload C (a1.toNatClampNeg) dX10_put_54 rfl h15 rfl ?_
          obtain ⟨x16, ex16, hF⟩ := nam_e hF
          refine r_topI ex16 ?_
          refine r_istore_n (ls2 := [(3, vI x16), (0, vR (0, 0, 0)), (1, vI a1), (2, vI a2)]) C dX10_put_55 3 rfl (by decide) rfl ?_
          refine r_aload_n C 1 0 dX10_put_56 rfl rfl ?_
          refine r_getR (kf := 5) (d2 := (7, 0, 0)) C dX10_put_57 rfl rfl f_X10 (by decide) t_2_100 rfl rfl ?_
          refine r_getR (kf := 0) (d2 := (8, 0, 0)) C dX10_put_60 rfl rfl f_X6 (by decide) t_1_154 rfl rfl ?_
          refine r_iload_n C 2 1 dX10_put_63 rfl rfl ?_
          refine r_iload_n C 3 2 dX10_put_64 rfl rfl ?_
          obtain ⟨h17, hF⟩ := ck_e hF
          obtain ⟨σ18, eσ18, hF⟩ := nam_e hF
          refine r_iastore C (a1.toNatClampNeg) dX10_put_65 rfl h17 rfl eσ18 ?_
          refine r_iload_n C 0 3 dX10_put_66 rfl rfl ?_
          exact r_ireturn C dX10_put_67 (rt_e hF)
        · have hF := if_t h27 hF
          refine r_aload_n C 0 0 dX10_put_30 rfl rfl ?_
          refine r_getR (kf := 5) (d2 := (7, 0, 0)) C dX10_put_31 rfl rfl f_X10 (by decide) t_2_100 rfl rfl ?_
          refine r_iload_n C 1 1 dX10_put_34 rfl rfl ?_
          obtain ⟨r20, σ19, e21, hF⟩ := bd_e hF
          refine r_callV_i (as := [vI a1]) (st := []) C dX10_put_35 (s_X6_dropAt G l e21) rfl rfl rfl t_3_131 t_3_132 t_3_133 t_1_5 t_3_134 m_X6_dropAt ⟨Nat.le_of_ble_eq_true rfl, Nat.le_of_ble_eq_true rfl⟩ ⟨rfl, rfl⟩ ⟨Nat.zero_le _, Nat.zero_le _⟩ rfl (Nat.le_of_ble_eq_true rfl) ?_
          refine r_bipush (v := (-4 : Int32)) C dX10_put_38 rfl ?_
          refine r_icmp_eq C 46 dX10_put_40 (by decide)  (fun h26 => ?_) (fun h26 => ?_)
          · have hF := if_t h26 hF
            refine r_aload_n C 0 0 dX10_put_46 rfl rfl ?_
            refine r_getR (kf := 5) (d2 := (7, 0, 0)) C dX10_put_47 rfl rfl f_X10 (by decide) t_2_100 rfl rfl ?_
            refine r_getR (kf := 0) (d2 := (8, 0, 0)) C dX10_put_50 rfl rfl f_X6 (by decide) t_1_154 rfl rfl ?_
            refine r_iload_n C 1 1 dX10_put_53 rfl rfl ?_
            obtain ⟨h22, hF⟩ := ck_e hF
            refine r_iaload C (a1.toNatClampNeg) dX10_put_54 rfl h22 rfl ?_
            obtain ⟨x23, ex23, hF⟩ := nam_e hF
            refine r_topI ex23 ?_
            refine r_istore_n (ls2 := [(3, vI x23), (0, vR (0, 0, 0)), (1, vI a1), (2, vI a2)]) C dX10_put_55 3 rfl (by decide) rfl ?_
            refine r_aload_n C 1 0 dX10_put_56 rfl rfl ?_
            refine r_getR (kf := 5) (d2 := (7, 0, 0)) C dX10_put_57 rfl rfl f_X10 (by decide) t_2_100 rfl rfl ?_
            refine r_getR (kf := 0) (d2 := (8, 0, 0)) C dX10_put_60 rfl rfl f_X6 (by decide) t_1_154 rfl rfl ?_
            refine r_iload_n C 2 1 dX10_put_63 rfl rfl ?_
            refine r_iload_n C 3 2 dX10_put_64 rfl rfl ?_
            obtain ⟨h24, hF⟩ := ck_e hF
            obtain ⟨σ25, eσ25, hF⟩ := nam_e hF
            refine r_iastore C (a1.toNatClampNeg) dX10_put_65 rfl h24 rfl eσ25 ?_
            refine r_iload_n C 0 3 dX10_put_66 rfl rfl ?_
            exact r_ireturn C dX10_put_67 (rt_e hF)
          · have hF := if_f h26 hF
            refine r_bipush (v := (-2 : Int32)) C dX10_put_43 rfl ?_
            exact r_ireturn C dX10_put_45 (rt_e hF)
    · have hF := if_t h29 hF
      refine r_iconst (v := (-1 : Int32)) C dX10_put_17 rfl ?_
      exact r_ireturn C dX10_put_18 (rt_e hF)
def F_X10_isHeat (a0 : Int32) (σ : St) : Option (Int32 × St) :=
  bd (F_X10_within a0 (0 : Int32) (99 : Int32) σ) fun r2 σ1 => ck (decide (r2 = 0 ∨ r2 = 1)) (some (r2, σ1))
set_option maxRecDepth 20000 in
set_option maxHeartbeats 4000000 in
theorem s_X10_isHeat (G : Gx) (l : Launch) {a0 : Int32} {σ σ' : St} {r : Int32} (hF : F_X10_isHeat a0 σ = some (r, σ')) : Sp G l yX10_isHeat cX10_isHeat 1 (some .boolean) (lvl 1) [vI a0] σ (va_Qi (fun a b => a = r ∧ b = σ') (Wd G) (AG G)) := by
  refine Sp_of (own := RX10) (by decide) rfl (Nat.le_of_ble_eq_true rfl) ?_
  intro p e s m args below meth c C
  show Rt G p l e (lvl 1) s m args below meth c 0 0 (MQ below (va_Qi (fun a b => a = r ∧ b = σ') (Wd G) (AG G)) args s 0 0 (AG G)) 1 0 [(0, vI a0)] [] σ
  unfold F_X10_isHeat at hF
  refine r_iload_n C 0 0 dX10_isHeat_0 rfl rfl ?_
  refine r_iconst (v := (0 : Int32)) C dX10_isHeat_1 rfl ?_
  refine r_bipush (v := (99 : Int32)) C dX10_isHeat_2 rfl ?_
  obtain ⟨r2, σ1, e3, hF⟩ := bd_e hF
  refine r_callS_i (as := [vI a0, vI (0 : Int32), vI (99 : Int32)]) (st := []) C dX10_isHeat_4 (s_X10_within G l e3) t_2_143 t_2_144 t_1_1 t_2_145 m_X10_within ⟨Nat.le_of_ble_eq_true rfl, Nat.le_of_ble_eq_true rfl⟩ ⟨rfl, rfl⟩ ⟨Nat.zero_le _, Nat.zero_le _⟩ rfl (Nat.le_of_ble_eq_true rfl) ?_
  obtain ⟨h4, hF⟩ := ck_e hF
  exact r_zreturn C dX10_isHeat_7 (nar_z (bz h4)) (rt_e hF)
def F_X5_floatsAt (q0 : Nat) (a1 : Int32) (a2 : Int32) (σ : St) : Option (Int32 × St) :=
  nam (fun (y1 : Int32) (σ3 : St) => ck (inb y1 9) ((if a1 < (σ3.1 (4, q0, 0) (y1.toNatClampNeg)) then some ((0 : Int32), σ3) else some ((1 : Int32), σ3)))) fun k2 => (if a2 = 0 then k2 (1 : Int32) σ else k2 (0 : Int32) σ)
set_option maxRecDepth 20000 in
set_option maxHeartbeats 4000000 in
theorem s_X5_floatsAt (G : Gx) (l : Launch) {q0 : Nat} {a1 : Int32} {a2 : Int32} {σ σ' : St} {r : Int32} (hF : F_X5_floatsAt q0 a1 a2 σ = some (r, σ')) : Sp G l yX5_floatsAt cX5_floatsAt 3 (some .boolean) (lvl 0) [vR (3, q0, 0), vI a1, vI a2] σ (va_Qi (fun a b => a = r ∧ b = σ') (Wd G) (AG G)) := by
  refine Sp_of (own := RX5) (by decide) rfl (Nat.le_of_ble_eq_true rfl) ?_
  intro p e s m args below meth c C
  show Rt G p l e (lvl 0) s m args below meth c 0 0 (MQ below (va_Qi (fun a b => a = r ∧ b = σ') (Wd G) (AG G)) args s 0 0 (AG G)) 3 0 [(0, vR (3, q0, 0)), (1, vI a1), (2, vI a2)] [] σ
  unfold F_X5_floatsAt at hF
  refine r_iload_n C 1 1 dX5_floatsAt_0 rfl rfl ?_
  refine r_aload_n C 0 0 dX5_floatsAt_1 rfl rfl ?_
  refine r_getR (kf := 0) (d2 := (4, q0, 0)) C dX5_floatsAt_2 rfl rfl f_X5 (by decide) t_1_50 rfl rfl ?_
  refine r_iload_n C 2 2 dX5_floatsAt_5 rfl rfl ?_
  obtain ⟨k2, ek2, hF⟩ := nam_e hF
  have hk2 : ∀ (y1 : Int32) (σ3 : St), k2 y1 σ3 = some (r, σ') → Rt G p l e (lvl 0) s m args below meth c 0 0 (MQ below (va_Qi (fun a b => a = r ∧ b = σ') (Wd G) (AG G)) args s 0 0 (AG G)) 3 14 [] [vI y1, vR (4, q0, 0), vI a1] σ3 := by
    intro y1 σ3 hF
    subst ek2
    obtain ⟨h4, hF⟩ := ck_e hF
    refine r_iaload C (y1.toNatClampNeg) dX5_floatsAt_14 rfl h4 rfl ?_
    refine r_icmp_lt C 22 dX5_floatsAt_15 (by decide)  (fun h5 => ?_) (fun h5 => ?_)
    · have hF := if_t h5 hF
      refine r_iconst (v := (0 : Int32)) C dX5_floatsAt_22 rfl ?_
      exact r_zreturn C dX5_floatsAt_23 (nar_z (Or.inl rfl)) (rt_e hF)
    · have hF := if_f h5 hF
      refine r_iconst (v := (1 : Int32)) C dX5_floatsAt_18 rfl ?_
      refine r_goto C 23 dX5_floatsAt_19 (by decide) ?_
      exact r_zreturn C dX5_floatsAt_23 (nar_z (Or.inr rfl)) (rt_e hF)
  refine r_if_eq C 13 dX5_floatsAt_6 (by decide)  (fun h6 => ?_) (fun h6 => ?_)
  · have hF := if_t h6 hF
    refine r_iconst (v := (1 : Int32)) C dX5_floatsAt_13 rfl ?_
    refine r_drop (ls2 := []) [] rfl ?_
    exact hk2 _ _ hF
  · have hF := if_f h6 hF
    refine r_iconst (v := (0 : Int32)) C dX5_floatsAt_9 rfl ?_
    refine r_goto C 14 dX5_floatsAt_10 (by decide) ?_
    refine r_drop (ls2 := []) [] rfl ?_
    exact hk2 _ _ hF
def F_X10_heat (a1 : Int32) (σ : St) : Option (Int32 × St) :=
  bd (F_X10_isHeat a1 σ) fun r2 σ1 => (if r2 = 0 then some ((-1 : Int32), σ1) else nam (uI σ1 (7, 0, 0) 3 a1) fun σ4 => nam (fun (y5 : Int32) (σ7 : St) => bd (F_X5_floatsAt 0 a1 y5 σ7) fun r9 σ8 => ck (decide (r9 = 0 ∨ r9 = 1)) (nam (uI σ8 (7, 0, 0) 6 r9) fun σ12 => (if (σ12.1 (7, 0, 0) 6) = 0 then some ((0 : Int32), σ12) else some ((1 : Int32), σ12)))) fun k6 => (if (σ4.1 (7, 0, 0) 6) = 0 then k6 (1 : Int32) σ4 else k6 (0 : Int32) σ4))
set_option maxRecDepth 20000 in
set_option maxHeartbeats 4000000 in
theorem s_X10_heat (G : Gx) (l : Launch) {a1 : Int32} {σ σ' : St} {r : Int32} (hF : F_X10_heat a1 σ = some (r, σ')) : Sp G l yX10_heat cX10_heat 2 (some .int) (lvl 2) [vR (0, 0, 0), vI a1] σ (va_Qi (fun a b => a = r ∧ b = σ') (Wd G) (AG G)) := by
  refine Sp_of (own := RX10) (by decide) rfl (Nat.le_of_ble_eq_true rfl) ?_
  intro p e s m args below meth c C
  show Rt G p l e (lvl 2) s m args below meth c 0 0 (MQ below (va_Qi (fun a b => a = r ∧ b = σ') (Wd G) (AG G)) args s 0 0 (AG G)) 2 0 [(0, vR (0, 0, 0)), (1, vI a1)] [] σ
  unfold F_X10_heat at hF
  refine r_iload_n C 1 1 dX10_heat_0 rfl rfl ?_
  obtain ⟨r2, σ1, e3, hF⟩ := bd_e hF
  refine r_callS_i (as := [vI a1]) (st := []) C dX10_heat_1 (s_X10_isHeat G l e3) t_3_139 t_3_140 t_1_1 t_3_141 m_X10_isHeat ⟨Nat.le_of_ble_eq_true rfl, Nat.le_of_ble_eq_true rfl⟩ ⟨rfl, rfl⟩ ⟨Nat.zero_le _, Nat.zero_le _⟩ rfl (Nat.le_of_ble_eq_true rfl) ?_
  refine r_if_ne C 9 dX10_heat_4 (by decide)  (fun h15 => ?_) (fun h15 => ?_)
  · have hF := if_f h15 hF
    refine r_aload_n C 0 0 dX10_heat_9 rfl rfl ?_
    refine r_getR (kf := 5) (d2 := (7, 0, 0)) C dX10_heat_10 rfl rfl f_X10 (by decide) t_2_100 rfl rfl ?_
    refine r_iload_n C 1 1 dX10_heat_13 rfl rfl ?_
    obtain ⟨σ4, eσ4, hF⟩ := nam_e hF
    refine r_put (kf := 3) (ty0 := tyX6) C dX10_heat_14 rfl rfl f_X6 tyX6_ok nmX6 (by decide) t_1_161 rfl rfl rfl rfl eσ4 ?_
    refine r_aload_n C 0 0 dX10_heat_17 rfl rfl ?_
    refine r_getR (kf := 5) (d2 := (7, 0, 0)) C dX10_heat_18 rfl rfl f_X10 (by decide) t_2_100 rfl rfl ?_
    refine r_aload_n C 0 0 dX10_heat_21 rfl rfl ?_
    refine r_getR (kf := 4) (d2 := (3, 0, 0)) C dX10_heat_22 rfl rfl f_X10 (by decide) t_2_99 rfl rfl ?_
    refine r_iload_n C 1 1 dX10_heat_25 rfl rfl ?_
    refine r_aload_n C 0 0 dX10_heat_26 rfl rfl ?_
    refine r_getR (kf := 5) (d2 := (7, 0, 0)) C dX10_heat_27 rfl rfl f_X10 (by decide) t_2_100 rfl rfl ?_
    refine r_getI (kf := 6) C dX10_heat_30 rfl rfl f_X6 (by decide) t_1_167 rfl ?_
    obtain ⟨k6, ek6, hF⟩ := nam_e hF
    have hk6 : ∀ (y5 : Int32) (σ7 : St), k6 y5 σ7 = some (r, σ') → Rt G p l e (lvl 2) s m args below meth c 0 0 (MQ below (va_Qi (fun a b => a = r ∧ b = σ') (Wd G) (AG G)) args s 0 0 (AG G)) 2 41 [(0, vR (0, 0, 0))] [vI y5, vI a1, vR (3, 0, 0), vR (7, 0, 0)] σ7 := by
      intro y5 σ7 hF
      subst ek6
      obtain ⟨r9, σ8, e10, hF⟩ := bd_e hF
      refine r_callV_i (as := [vI a1, vI y5]) (st := [vR (7, 0, 0)]) C dX10_heat_41 (s_X5_floatsAt G l e10) rfl rfl rfl t_3_142 t_3_143 t_3_144 t_1_3 t_3_145 m_X5_floatsAt ⟨Nat.le_of_ble_eq_true rfl, Nat.le_of_ble_eq_true rfl⟩ ⟨rfl, rfl⟩ ⟨Nat.zero_le _, Nat.zero_le _⟩ rfl (Nat.le_of_ble_eq_true rfl) ?_
      obtain ⟨h11, hF⟩ := ck_e hF
      obtain ⟨σ12, eσ12, hF⟩ := nam_e hF
      refine r_put (kf := 6) (ty0 := tyX6) C dX10_heat_44 rfl rfl f_X6 tyX6_ok nmX6 (by decide) t_1_167 rfl rfl (nar_z (bz h11)) (fit_z (bz h11)) eσ12 ?_
      refine r_aload_n C 0 0 dX10_heat_47 rfl rfl ?_
      refine r_getR (kf := 5) (d2 := (7, 0, 0)) C dX10_heat_48 rfl rfl f_X10 (by decide) t_2_100 rfl rfl ?_
      refine r_getI (kf := 6) C dX10_heat_51 rfl rfl f_X6 (by decide) t_1_167 rfl ?_
      refine r_if_eq C 61 dX10_heat_54 (by decide)  (fun h13 => ?_) (fun h13 => ?_)
      · have hF := if_t h13 hF
        refine r_iconst (v := (0 : Int32)) C dX10_heat_61 rfl ?_
        exact r_ireturn C dX10_heat_62 (rt_e hF)
      · have hF := if_f h13 hF
        refine r_iconst (v := (1 : Int32)) C dX10_heat_57 rfl ?_
        refine r_goto C 62 dX10_heat_58 (by decide) ?_
        exact r_ireturn C dX10_heat_62 (rt_e hF)
    refine r_if_ne C 40 dX10_heat_33 (by decide)  (fun h14 => ?_) (fun h14 => ?_)
    · have hF := if_f h14 hF
      refine r_iconst (v := (0 : Int32)) C dX10_heat_40 rfl ?_
      refine r_drop (ls2 := [(0, vR (0, 0, 0))]) [0] rfl ?_
      exact hk6 _ _ hF
    · have hF := if_t h14 hF
      refine r_iconst (v := (1 : Int32)) C dX10_heat_36 rfl ?_
      refine r_goto C 41 dX10_heat_37 (by decide) ?_
      refine r_drop (ls2 := [(0, vR (0, 0, 0))]) [0] rfl ?_
      exact hk6 _ _ hF
  · have hF := if_t h15 hF
    refine r_iconst (v := (-1 : Int32)) C dX10_heat_7 rfl ?_
    exact r_ireturn C dX10_heat_8 (rt_e hF)
def F_X10_isSize (a0 : Int32) (σ : St) : Option (Int32 × St) :=
  bd (F_X10_within a0 (1 : Int32) (60 : Int32) σ) fun r2 σ1 => ck (decide (r2 = 0 ∨ r2 = 1)) (some (r2, σ1))
set_option maxRecDepth 20000 in
set_option maxHeartbeats 4000000 in
theorem s_X10_isSize (G : Gx) (l : Launch) {a0 : Int32} {σ σ' : St} {r : Int32} (hF : F_X10_isSize a0 σ = some (r, σ')) : Sp G l yX10_isSize cX10_isSize 1 (some .boolean) (lvl 1) [vI a0] σ (va_Qi (fun a b => a = r ∧ b = σ') (Wd G) (AG G)) := by
  refine Sp_of (own := RX10) (by decide) rfl (Nat.le_of_ble_eq_true rfl) ?_
  intro p e s m args below meth c C
  show Rt G p l e (lvl 1) s m args below meth c 0 0 (MQ below (va_Qi (fun a b => a = r ∧ b = σ') (Wd G) (AG G)) args s 0 0 (AG G)) 1 0 [(0, vI a0)] [] σ
  unfold F_X10_isSize at hF
  refine r_iload_n C 0 0 dX10_isSize_0 rfl rfl ?_
  refine r_iconst (v := (1 : Int32)) C dX10_isSize_1 rfl ?_
  refine r_bipush (v := (60 : Int32)) C dX10_isSize_2 rfl ?_
  obtain ⟨r2, σ1, e3, hF⟩ := bd_e hF
  refine r_callS_i (as := [vI a0, vI (1 : Int32), vI (60 : Int32)]) (st := []) C dX10_isSize_4 (s_X10_within G l e3) t_2_143 t_2_144 t_1_1 t_2_145 m_X10_within ⟨Nat.le_of_ble_eq_true rfl, Nat.le_of_ble_eq_true rfl⟩ ⟨rfl, rfl⟩ ⟨Nat.zero_le _, Nat.zero_le _⟩ rfl (Nat.le_of_ble_eq_true rfl) ?_
  obtain ⟨h4, hF⟩ := ck_e hF
  exact r_zreturn C dX10_isSize_7 (nar_z (bz h4)) (rt_e hF)
def F_X10_isWay (a0 : Int32) (σ : St) : Option (Int32 × St) :=
  (if a0 < 0 then some ((0 : Int32), σ) else (if (4 : Int32) ≤ a0 then some ((0 : Int32), σ) else some ((1 : Int32), σ)))
set_option maxRecDepth 20000 in
set_option maxHeartbeats 4000000 in
theorem s_X10_isWay (G : Gx) (l : Launch) {a0 : Int32} {σ σ' : St} {r : Int32} (hF : F_X10_isWay a0 σ = some (r, σ')) : Sp G l yX10_isWay cX10_isWay 1 (some .boolean) (lvl 0) [vI a0] σ (va_Qi (fun a b => a = r ∧ b = σ') (Wd G) (AG G)) := by
  refine Sp_of (own := RX10) (by decide) rfl (Nat.le_of_ble_eq_true rfl) ?_
  intro p e s m args below meth c C
  show Rt G p l e (lvl 0) s m args below meth c 0 0 (MQ below (va_Qi (fun a b => a = r ∧ b = σ') (Wd G) (AG G)) args s 0 0 (AG G)) 1 0 [(0, vI a0)] [] σ
  unfold F_X10_isWay at hF
  refine r_iload_n C 0 0 dX10_isWay_0 rfl rfl ?_
  refine r_if_lt C 13 dX10_isWay_1 (by decide)  (fun h2 => ?_) (fun h2 => ?_)
  · have hF := if_t h2 hF
    refine r_iconst (v := (0 : Int32)) C dX10_isWay_13 rfl ?_
    exact r_zreturn C dX10_isWay_14 (nar_z (Or.inl rfl)) (rt_e hF)
  · have hF := if_f h2 hF
    refine r_iload_n C 0 0 dX10_isWay_4 rfl rfl ?_
    refine r_iconst (v := (4 : Int32)) C dX10_isWay_5 rfl ?_
    refine r_icmp_ge C 13 dX10_isWay_6 (by decide)  (fun h1 => ?_) (fun h1 => ?_)
    · have hF := if_t h1 hF
      refine r_iconst (v := (0 : Int32)) C dX10_isWay_13 rfl ?_
      exact r_zreturn C dX10_isWay_14 (nar_z (Or.inl rfl)) (rt_e hF)
    · have hF := if_f h1 hF
      refine r_iconst (v := (1 : Int32)) C dX10_isWay_9 rfl ?_
      refine r_goto C 14 dX10_isWay_10 (by decide) ?_
      exact r_zreturn C dX10_isWay_14 (nar_z (Or.inr rfl)) (rt_e hF)
def F_X10_isDropToBe (a0 : Int32) (a1 : Int32) (a2 : Int32) (σ : St) : Option (Int32 × St) :=
  bd (F_X10_isCell a0 σ) fun r2 σ1 => (if r2 = 0 then some ((0 : Int32), σ1) else bd (F_X10_isSize a1 σ1) fun r5 σ4 => (if r5 = 0 then some ((0 : Int32), σ4) else bd (F_X10_isWay a2 σ4) fun r8 σ7 => (if r8 = 0 then some ((0 : Int32), σ7) else some ((1 : Int32), σ7))))
set_option maxRecDepth 20000 in
set_option maxHeartbeats 4000000 in
theorem s_X10_isDropToBe (G : Gx) (l : Launch) {a0 : Int32} {a1 : Int32} {a2 : Int32} {σ σ' : St} {r : Int32} (hF : F_X10_isDropToBe a0 a1 a2 σ = some (r, σ')) : Sp G l yX10_isDropToBe cX10_isDropToBe 3 (some .boolean) (lvl 2) [vI a0, vI a1, vI a2] σ (va_Qi (fun a b => a = r ∧ b = σ') (Wd G) (AG G)) := by
  refine Sp_of (own := RX10) (by decide) rfl (Nat.le_of_ble_eq_true rfl) ?_
  intro p e s m args below meth c C
  show Rt G p l e (lvl 2) s m args below meth c 0 0 (MQ below (va_Qi (fun a b => a = r ∧ b = σ') (Wd G) (AG G)) args s 0 0 (AG G)) 3 0 [(0, vI a0), (1, vI a1), (2, vI a2)] [] σ
  unfold F_X10_isDropToBe at hF
  refine r_iload_n C 0 0 dX10_isDropToBe_0 rfl rfl ?_
  obtain ⟨r2, σ1, e3, hF⟩ := bd_e hF
  refine r_callS_i (as := [vI a0]) (st := []) C dX10_isDropToBe_1 (s_X10_isCell G l e3) t_3_120 t_3_121 t_1_1 t_3_122 m_X10_isCell ⟨Nat.le_of_ble_eq_true rfl, Nat.le_of_ble_eq_true rfl⟩ ⟨rfl, rfl⟩ ⟨Nat.zero_le _, Nat.zero_le _⟩ rfl (Nat.le_of_ble_eq_true rfl) ?_
  refine r_if_eq C 25 dX10_isDropToBe_4 (by decide)  (fun h12 => ?_) (fun h12 => ?_)
  · have hF := if_t h12 hF
    refine r_iconst (v := (0 : Int32)) C dX10_isDropToBe_25 rfl ?_
    exact r_zreturn C dX10_isDropToBe_26 (nar_z (Or.inl rfl)) (rt_e hF)
  · have hF := if_f h12 hF
    refine r_iload_n C 1 1 dX10_isDropToBe_7 rfl rfl ?_
    obtain ⟨r5, σ4, e6, hF⟩ := bd_e hF
    refine r_callS_i (as := [vI a1]) (st := []) C dX10_isDropToBe_8 (s_X10_isSize G l e6) t_3_157 t_3_158 t_1_1 t_3_159 m_X10_isSize ⟨Nat.le_of_ble_eq_true rfl, Nat.le_of_ble_eq_true rfl⟩ ⟨rfl, rfl⟩ ⟨Nat.zero_le _, Nat.zero_le _⟩ rfl (Nat.le_of_ble_eq_true rfl) ?_
    refine r_if_eq C 25 dX10_isDropToBe_11 (by decide)  (fun h11 => ?_) (fun h11 => ?_)
    · have hF := if_t h11 hF
      refine r_iconst (v := (0 : Int32)) C dX10_isDropToBe_25 rfl ?_
      exact r_zreturn C dX10_isDropToBe_26 (nar_z (Or.inl rfl)) (rt_e hF)
    · have hF := if_f h11 hF
      refine r_iload_n C 2 2 dX10_isDropToBe_14 rfl rfl ?_
      obtain ⟨r8, σ7, e9, hF⟩ := bd_e hF
      refine r_callS_i (as := [vI a2]) (st := []) C dX10_isDropToBe_15 (s_X10_isWay G l e9) t_3_160 t_3_161 t_1_1 t_3_162 m_X10_isWay ⟨Nat.le_of_ble_eq_true rfl, Nat.le_of_ble_eq_true rfl⟩ ⟨rfl, rfl⟩ ⟨Nat.zero_le _, Nat.zero_le _⟩ rfl (Nat.le_of_ble_eq_true rfl) ?_
      refine r_if_eq C 25 dX10_isDropToBe_18 (by decide)  (fun h10 => ?_) (fun h10 => ?_)
      · have hF := if_t h10 hF
        refine r_iconst (v := (0 : Int32)) C dX10_isDropToBe_25 rfl ?_
        exact r_zreturn C dX10_isDropToBe_26 (nar_z (Or.inl rfl)) (rt_e hF)
      · have hF := if_f h10 hF
        refine r_iconst (v := (1 : Int32)) C dX10_isDropToBe_21 rfl ?_
        refine r_goto C 26 dX10_isDropToBe_22 (by decide) ?_
        exact r_zreturn C dX10_isDropToBe_26 (nar_z (Or.inr rfl)) (rt_e hF)
def F_X6_isOpen (q0 : Nat) (a1 : Int32) (σ : St) : Option (Int32 × St) :=
  bd (F_X6_kindAt q0 a1 σ) fun r2 σ1 => (if r2 = (5 : Int32) then some ((0 : Int32), σ1) else (if r2 = (6 : Int32) then some ((0 : Int32), σ1) else some ((1 : Int32), σ1)))
set_option maxRecDepth 20000 in
set_option maxHeartbeats 4000000 in
theorem s_X6_isOpen (G : Gx) (l : Launch) {q0 : Nat} {a1 : Int32} {σ σ' : St} {r : Int32} (hF : F_X6_isOpen q0 a1 σ = some (r, σ')) : Sp G l yX6_isOpen cX6_isOpen 3 (some .boolean) (lvl 1) [vR (7, q0, 0), vI a1] σ (va_Qi (fun a b => a = r ∧ b = σ') (Wd G) (AG G)) := by
  refine Sp_of (own := RX6) (by decide) rfl (Nat.le_of_ble_eq_true rfl) ?_
  intro p e s m args below meth c C
  show Rt G p l e (lvl 1) s m args below meth c 0 0 (MQ below (va_Qi (fun a b => a = r ∧ b = σ') (Wd G) (AG G)) args s 0 0 (AG G)) 3 0 [(0, vR (7, q0, 0)), (1, vI a1)] [] σ
  unfold F_X6_isOpen at hF
  refine r_aload_n C 0 0 dX6_isOpen_0 rfl rfl ?_
  refine r_iload_n C 1 1 dX6_isOpen_1 rfl rfl ?_
  obtain ⟨r2, σ1, e3, hF⟩ := bd_e hF
  refine r_callV_i (as := [vI a1]) (st := []) C dX6_isOpen_2 (s_X6_kindAt G l e3) rfl rfl rfl t_3_167 t_3_124 t_3_125 t_1_5 t_3_126 m_X6_kindAt ⟨Nat.le_of_ble_eq_true rfl, Nat.le_of_ble_eq_true rfl⟩ ⟨rfl, rfl⟩ ⟨Nat.zero_le _, Nat.zero_le _⟩ rfl (Nat.le_of_ble_eq_true rfl) ?_
  refine r_istore_n (ls2 := [(2, vI r2), (0, vR (7, q0, 0)), (1, vI a1)]) C dX6_isOpen_5 2 rfl (by decide) rfl ?_
  refine r_iload_n C 0 2 dX6_isOpen_6 rfl rfl ?_
  refine r_iconst (v := (5 : Int32)) C dX6_isOpen_7 rfl ?_
  refine r_icmp_eq C 21 dX6_isOpen_8 (by decide)  (fun h5 => ?_) (fun h5 => ?_)
  · have hF := if_t h5 hF
    refine r_iconst (v := (0 : Int32)) C dX6_isOpen_21 rfl ?_
    exact r_zreturn C dX6_isOpen_22 (nar_z (Or.inl rfl)) (rt_e hF)
  · have hF := if_f h5 hF
    refine r_iload_n C 0 2 dX6_isOpen_11 rfl rfl ?_
    refine r_bipush (v := (6 : Int32)) C dX6_isOpen_12 rfl ?_
    refine r_icmp_eq C 21 dX6_isOpen_14 (by decide)  (fun h4 => ?_) (fun h4 => ?_)
    · have hF := if_t h4 hF
      refine r_iconst (v := (0 : Int32)) C dX6_isOpen_21 rfl ?_
      exact r_zreturn C dX6_isOpen_22 (nar_z (Or.inl rfl)) (rt_e hF)
    · have hF := if_f h4 hF
      refine r_iconst (v := (1 : Int32)) C dX6_isOpen_17 rfl ?_
      refine r_goto C 22 dX6_isOpen_18 (by decide) ?_
      exact r_zreturn C dX6_isOpen_22 (nar_z (Or.inr rfl)) (rt_e hF)
def F_X0_begin (q0 : Nat) (i0 : Nat) (a1 : Int32) (a2 : Int32) (a3 : Int32) (σ : St) : Option (Unit × St) :=
  nam (uI σ (10, q0, i0) 0 a1) fun σ1 => nam (uI σ1 (10, q0, i0) 1 a2) fun σ2 => nam (uI σ2 (10, q0, i0) 2 a3) fun σ3 => nam (uI σ3 (10, q0, i0) 3 (0 : Int32)) fun σ4 => nam (uI σ4 (10, q0, i0) 4 (-4 : Int32)) fun σ5 => nam (uI σ5 (10, q0, i0) 5 (-4 : Int32)) fun σ6 => some ((), σ6)
set_option maxRecDepth 20000 in
set_option maxHeartbeats 4000000 in
theorem s_X0_begin (G : Gx) (l : Launch) {q0 : Nat} {i0 : Nat} {a1 : Int32} {a2 : Int32} {a3 : Int32} {σ σ' : St}  (hF : F_X0_begin q0 i0 a1 a2 a3 σ = some ((), σ')) : Sp G l yX0_begin cX0_begin 4 none (lvl 0) [vR (10, q0, i0), vI a1, vI a2, vI a3] σ (va_Qv (fun b => b = σ') (Wd G) (AG G)) := by
  refine Sp_of (own := RX0) (by decide) rfl (Nat.le_of_ble_eq_true rfl) ?_
  intro p e s m args below meth c C
  show Rt G p l e (lvl 0) s m args below meth c 0 0 (MQ below (va_Qv (fun b => b = σ') (Wd G) (AG G)) args s 0 0 (AG G)) 4 0 [(0, vR (10, q0, i0)), (1, vI a1), (2, vI a2), (3, vI a3)] [] σ
  unfold F_X0_begin at hF
  refine r_aload_n C 0 0 dX0_begin_0 rfl rfl ?_
  refine r_iload_n C 1 1 dX0_begin_1 rfl rfl ?_
  obtain ⟨σ1, eσ1, hF⟩ := nam_e hF
  refine r_put (kf := 0) (ty0 := tyX0) C dX0_begin_2 rfl rfl f_X0 tyX0_ok nmX0 (by decide) t_1_117 rfl rfl rfl rfl eσ1 ?_
  refine r_aload_n C 0 0 dX0_begin_5 rfl rfl ?_
  refine r_iload_n C 2 2 dX0_begin_6 rfl rfl ?_
  obtain ⟨σ2, eσ2, hF⟩ := nam_e hF
  refine r_put (kf := 1) (ty0 := tyX0) C dX0_begin_7 rfl rfl f_X0 tyX0_ok nmX0 (by decide) t_1_122 rfl rfl rfl rfl eσ2 ?_
  refine r_aload_n C 0 0 dX0_begin_10 rfl rfl ?_
  refine r_iload_n C 3 3 dX0_begin_11 rfl rfl ?_
  obtain ⟨σ3, eσ3, hF⟩ := nam_e hF
  refine r_put (kf := 2) (ty0 := tyX0) C dX0_begin_12 rfl rfl f_X0 tyX0_ok nmX0 (by decide) t_1_125 rfl rfl rfl rfl eσ3 ?_
  refine r_aload_n C 0 0 dX0_begin_15 rfl rfl ?_
  refine r_iconst (v := (0 : Int32)) C dX0_begin_16 rfl ?_
  obtain ⟨σ4, eσ4, hF⟩ := nam_e hF
  refine r_put (kf := 3) (ty0 := tyX0) C dX0_begin_17 rfl rfl f_X0 tyX0_ok nmX0 (by decide) t_1_129 rfl rfl rfl rfl eσ4 ?_
  refine r_aload_n C 0 0 dX0_begin_20 rfl rfl ?_
  refine r_bipush (v := (-4 : Int32)) C dX0_begin_21 rfl ?_
  obtain ⟨σ5, eσ5, hF⟩ := nam_e hF
  refine r_put (kf := 4) (ty0 := tyX0) C dX0_begin_23 rfl rfl f_X0 tyX0_ok nmX0 (by decide) t_1_133 rfl rfl rfl rfl eσ5 ?_
  refine r_aload_n C 0 0 dX0_begin_26 rfl rfl ?_
  refine r_bipush (v := (-4 : Int32)) C dX0_begin_27 rfl ?_
  obtain ⟨σ6, eσ6, hF⟩ := nam_e hF
  refine r_put (kf := 5) (ty0 := tyX0) C dX0_begin_29 rfl rfl f_X0 tyX0_ok nmX0 (by decide) t_1_136 rfl rfl rfl rfl eσ6 ?_
  exact r_return C dX0_begin_32 (rv_e hF)
def F_X6_addDrop (q0 : Nat) (a1 : Int32) (a2 : Int32) (a3 : Int32) (σ : St) : Option (Int32 × St) :=
  (if (σ.1 (7, q0, 0) 2) < (12 : Int32) then ck (inb (σ.1 (7, q0, 0) 2) 12) (bd (F_X0_begin q0 ((σ.1 (7, q0, 0) 2).toNatClampNeg) a1 a2 a3 σ) fun _ σ2 => nam (uI σ2 (7, q0, 0) 10 ((σ2.1 (7, q0, 0) 10) + a2)) fun σ4 => nam (uI σ4 (7, q0, 0) 2 ((σ4.1 (7, q0, 0) 2) + (1 : Int32))) fun σ5 => some ((σ5.1 (7, q0, 0) 2) - (1 : Int32), σ5)) else some ((-3 : Int32), σ))
set_option maxRecDepth 20000 in
set_option maxHeartbeats 4000000 in
theorem s_X6_addDrop (G : Gx) (l : Launch) {q0 : Nat} {a1 : Int32} {a2 : Int32} {a3 : Int32} {σ σ' : St} {r : Int32} (hF : F_X6_addDrop q0 a1 a2 a3 σ = some (r, σ')) : Sp G l yX6_addDrop cX6_addDrop 4 (some .int) (lvl 1) [vR (7, q0, 0), vI a1, vI a2, vI a3] σ (va_Qi (fun a b => a = r ∧ b = σ') (Wd G) (AG G)) := by
  refine Sp_of (own := RX6) (by decide) rfl (Nat.le_of_ble_eq_true rfl) ?_
  intro p e s m args below meth c C
  show Rt G p l e (lvl 1) s m args below meth c 0 0 (MQ below (va_Qi (fun a b => a = r ∧ b = σ') (Wd G) (AG G)) args s 0 0 (AG G)) 4 0 [(0, vR (7, q0, 0)), (1, vI a1), (2, vI a2), (3, vI a3)] [] σ
  unfold F_X6_addDrop at hF
  refine r_aload_n C 0 0 dX6_addDrop_0 rfl rfl ?_
  refine r_getI (kf := 2) C dX6_addDrop_1 rfl rfl f_X6 (by decide) t_1_158 rfl ?_
  refine r_bipush (v := (12 : Int32)) C dX6_addDrop_4 rfl ?_
  refine r_icmp_lt C 12 dX6_addDrop_6 (by decide)  (fun h6 => ?_) (fun h6 => ?_)
  · have hF := if_t h6 hF
    refine r_aload_n C 0 0 dX6_addDrop_12 rfl rfl ?_
    refine r_getR (kf := 1) (d2 := (9, q0, 0)) C dX6_addDrop_13 rfl rfl f_X6 (by decide) t_1_155 rfl rfl ?_
    refine r_aload_n C 0 0 dX6_addDrop_16 rfl rfl ?_
    refine r_getI (kf := 2) C dX6_addDrop_17 rfl rfl f_X6 (by decide) t_1_158 rfl ?_
    obtain ⟨h1, hF⟩ := ck_e hF
    refine r_aaload (cA := 0) (d2 := (10, q0, ((σ.1 (7, q0, 0) 2).toNatClampNeg))) C dX6_addDrop_20 rfl rfl h1 rfl ?_
    refine r_iload_n C 1 1 dX6_addDrop_21 rfl rfl ?_
    refine r_iload_n C 2 2 dX6_addDrop_22 rfl rfl ?_
    refine r_iload_n C 3 3 dX6_addDrop_23 rfl rfl ?_
    obtain ⟨⟨⟩, σ2, e3, hF⟩ := bd_e hF
    refine r_callV_v (as := [vI a1, vI a2, vI a3]) (st := []) C dX6_addDrop_24 (s_X0_begin G l e3) rfl rfl rfl t_3_172 t_3_173 t_3_174 t_1_7 t_3_175 m_X0_begin ⟨Nat.le_of_ble_eq_true rfl, Nat.le_of_ble_eq_true rfl⟩ ⟨rfl, rfl⟩ ⟨Nat.zero_le _, Nat.zero_le _⟩ rfl (Nat.le_of_ble_eq_true rfl) ?_
    refine r_aload_n C 0 0 dX6_addDrop_27 rfl rfl ?_
    refine r_dup_r C dX6_addDrop_28 ?_
    refine r_getI (kf := 10) C dX6_addDrop_29 rfl rfl f_X6 (by decide) t_1_174 rfl ?_
    refine r_iload_n C 2 2 dX6_addDrop_32 rfl rfl ?_
    refine r_iadd C dX6_addDrop_33 ?_
    obtain ⟨σ4, eσ4, hF⟩ := nam_e hF
    refine r_put (kf := 10) (ty0 := tyX6) C dX6_addDrop_34 rfl rfl f_X6 tyX6_ok nmX6 (by decide) t_1_174 rfl rfl rfl rfl eσ4 ?_
    refine r_aload_n C 0 0 dX6_addDrop_37 rfl rfl ?_
    refine r_dup_r C dX6_addDrop_38 ?_
    refine r_getI (kf := 2) C dX6_addDrop_39 rfl rfl f_X6 (by decide) t_1_158 rfl ?_
    refine r_iconst (v := (1 : Int32)) C dX6_addDrop_42 rfl ?_
    refine r_iadd C dX6_addDrop_43 ?_
    obtain ⟨σ5, eσ5, hF⟩ := nam_e hF
    refine r_put (kf := 2) (ty0 := tyX6) C dX6_addDrop_44 rfl rfl f_X6 tyX6_ok nmX6 (by decide) t_1_158 rfl rfl rfl rfl eσ5 ?_
    refine r_aload_n C 0 0 dX6_addDrop_47 rfl rfl ?_
    refine r_getI (kf := 2) C dX6_addDrop_48 rfl rfl f_X6 (by decide) t_1_158 rfl ?_
    refine r_iconst (v := (1 : Int32)) C dX6_addDrop_51 rfl ?_
    refine r_isub C dX6_addDrop_52 ?_
    exact r_ireturn C dX6_addDrop_53 (rt_e hF)
  · have hF := if_f h6 hF
    refine r_bipush (v := (-3 : Int32)) C dX6_addDrop_9 rfl ?_
    exact r_ireturn C dX6_addDrop_11 (rt_e hF)
def F_X10_setDown (a1 : Int32) (a2 : Int32) (a3 : Int32) (σ : St) : Option (Int32 × St) :=
  bd (F_X10_isDropToBe a1 a2 a3 σ) fun r2 σ1 => (if r2 = 0 then some ((-1 : Int32), σ1) else bd (F_X6_isOpen 0 a1 σ1) fun r5 σ4 => (if r5 = 0 then some ((-2 : Int32), σ4) else bd (F_X6_dropAt 0 a1 σ4) fun r8 σ7 => (if r8 = (-4 : Int32) then (if (12 : Int32) ≤ (σ7.1 (7, 0, 0) 2) then some ((-3 : Int32), σ7) else bd (F_X6_addDrop 0 a1 a2 a3 σ7) fun r11 σ10 => some (r11, σ10)) else some ((-2 : Int32), σ7))))
set_option maxRecDepth 20000 in
set_option maxHeartbeats 4000000 in
theorem s_X10_setDown (G : Gx) (l : Launch) {a1 : Int32} {a2 : Int32} {a3 : Int32} {σ σ' : St} {r : Int32} (hF : F_X10_setDown a1 a2 a3 σ = some (r, σ')) : Sp G l yX10_setDown cX10_setDown 4 (some .int) (lvl 3) [vR (0, 0, 0), vI a1, vI a2, vI a3] σ (va_Qi (fun a b => a = r ∧ b = σ') (Wd G) (AG G)) := by
  refine Sp_of (own := RX10) (by decide) rfl (Nat.le_of_ble_eq_true rfl) ?_
  intro p e s m args below meth c C
  show Rt G p l e (lvl 3) s m args below meth c 0 0 (MQ below (va_Qi (fun a b => a = r ∧ b = σ') (Wd G) (AG G)) args s 0 0 (AG G)) 4 0 [(0, vR (0, 0, 0)), (1, vI a1), (2, vI a2), (3, vI a3)] [] σ
  unfold F_X10_setDown at hF
  refine r_iload_n C 1 1 dX10_setDown_0 rfl rfl ?_
  refine r_iload_n C 2 2 dX10_setDown_1 rfl rfl ?_
  refine r_iload_n C 3 3 dX10_setDown_2 rfl rfl ?_
  obtain ⟨r2, σ1, e3, hF⟩ := bd_e hF
  refine r_callS_i (as := [vI a1, vI a2, vI a3]) (st := []) C dX10_setDown_3 (s_X10_isDropToBe G l e3) t_3_154 t_3_155 t_1_1 t_3_156 m_X10_isDropToBe ⟨Nat.le_of_ble_eq_true rfl, Nat.le_of_ble_eq_true rfl⟩ ⟨rfl, rfl⟩ ⟨Nat.zero_le _, Nat.zero_le _⟩ rfl (Nat.le_of_ble_eq_true rfl) ?_
  refine r_if_ne C 11 dX10_setDown_6 (by decide)  (fun h16 => ?_) (fun h16 => ?_)
  · have hF := if_f h16 hF
    refine r_aload_n C 0 0 dX10_setDown_11 rfl rfl ?_
    refine r_getR (kf := 5) (d2 := (7, 0, 0)) C dX10_setDown_12 rfl rfl f_X10 (by decide) t_2_100 rfl rfl ?_
    refine r_iload_n C 1 1 dX10_setDown_15 rfl rfl ?_
    obtain ⟨r5, σ4, e6, hF⟩ := bd_e hF
    refine r_callV_i (as := [vI a1]) (st := []) C dX10_setDown_16 (s_X6_isOpen G l e6) rfl rfl rfl t_3_163 t_3_164 t_3_165 t_1_5 t_3_166 m_X6_isOpen ⟨Nat.le_of_ble_eq_true rfl, Nat.le_of_ble_eq_true rfl⟩ ⟨rfl, rfl⟩ ⟨Nat.zero_le _, Nat.zero_le _⟩ rfl (Nat.le_of_ble_eq_true rfl) ?_
    refine r_if_eq C 35 dX10_setDown_19 (by decide)  (fun h15 => ?_) (fun h15 => ?_)
    · have hF := if_t h15 hF
      refine r_bipush (v := (-2 : Int32)) C dX10_setDown_35 rfl ?_
      exact r_ireturn C dX10_setDown_37 (rt_e hF)
    · have hF := if_f h15 hF
      refine r_aload_n C 0 0 dX10_setDown_22 rfl rfl ?_
      refine r_getR (kf := 5) (d2 := (7, 0, 0)) C dX10_setDown_23 rfl rfl f_X10 (by decide) t_2_100 rfl rfl ?_
      refine r_iload_n C 1 1 dX10_setDown_26 rfl rfl ?_
      obtain ⟨r8, σ7, e9, hF⟩ := bd_e hF
      refine r_callV_i (as := [vI a1]) (st := []) C dX10_setDown_27 (s_X6_dropAt G l e9) rfl rfl rfl t_3_131 t_3_132 t_3_133 t_1_5 t_3_134 m_X6_dropAt ⟨Nat.le_of_ble_eq_true rfl, Nat.le_of_ble_eq_true rfl⟩ ⟨rfl, rfl⟩ ⟨Nat.zero_le _, Nat.zero_le _⟩ rfl (Nat.le_of_ble_eq_true rfl) ?_
      refine r_bipush (v := (-4 : Int32)) C dX10_setDown_30 rfl ?_
      refine r_icmp_eq C 38 dX10_setDown_32 (by decide)  (fun h14 => ?_) (fun h14 => ?_)
      · have hF := if_t h14 hF
        refine r_aload_n C 0 0 dX10_setDown_38 rfl rfl ?_
        refine r_getR (kf := 5) (d2 := (7, 0, 0)) C dX10_setDown_39 rfl rfl f_X10 (by decide) t_2_100 rfl rfl ?_
        refine r_getI (kf := 2) C dX10_setDown_42 rfl rfl f_X6 (by decide) t_1_159 rfl ?_
        refine r_bipush (v := (12 : Int32)) C dX10_setDown_45 rfl ?_
        refine r_icmp_ge C 63 dX10_setDown_47 (by decide)  (fun h13 => ?_) (fun h13 => ?_)
        · have hF := if_t h13 hF
          refine r_bipush (v := (-3 : Int32)) C dX10_setDown_63 rfl ?_
          exact r_ireturn C dX10_setDown_65 (rt_e hF)
        · have hF := if_f h13 hF
          refine r_aload_n C 0 0 dX10_setDown_50 rfl rfl ?_
          refine r_getR (kf := 5) (d2 := (7, 0, 0)) C dX10_setDown_51 rfl rfl f_X10 (by decide) t_2_100 rfl rfl ?_
          refine r_iload_n C 1 1 dX10_setDown_54 rfl rfl ?_
          refine r_iload_n C 2 2 dX10_setDown_55 rfl rfl ?_
          refine r_iload_n C 3 3 dX10_setDown_56 rfl rfl ?_
          obtain ⟨r11, σ10, e12, hF⟩ := bd_e hF
          refine r_callV_i (as := [vI a1, vI a2, vI a3]) (st := []) C dX10_setDown_57 (s_X6_addDrop G l e12) rfl rfl rfl t_3_168 t_3_169 t_3_170 t_1_5 t_3_171 m_X6_addDrop ⟨Nat.le_of_ble_eq_true rfl, Nat.le_of_ble_eq_true rfl⟩ ⟨rfl, rfl⟩ ⟨Nat.zero_le _, Nat.zero_le _⟩ rfl (Nat.le_of_ble_eq_true rfl) ?_
          refine r_goto C 65 dX10_setDown_60 (by decide) ?_
          exact r_ireturn C dX10_setDown_65 (rt_e hF)
      · have hF := if_f h14 hF
        refine r_bipush (v := (-2 : Int32)) C dX10_setDown_35 rfl ?_
        exact r_ireturn C dX10_setDown_37 (rt_e hF)
  · have hF := if_t h16 hF
    refine r_iconst (v := (-1 : Int32)) C dX10_setDown_9 rfl ?_
    exact r_ireturn C dX10_setDown_10 (rt_e hF)
def F_X10_drop (a1 : Int32) (a2 : Int32) (a3 : Int32) (σ : St) : Option (Int32 × St) :=
  bd (F_X10_setDown a1 a2 a3 σ) fun r2 σ1 => some (r2, σ1)
set_option maxRecDepth 20000 in
set_option maxHeartbeats 4000000 in
theorem s_X10_drop (G : Gx) (l : Launch) {a1 : Int32} {a2 : Int32} {a3 : Int32} {σ σ' : St} {r : Int32} (hF : F_X10_drop a1 a2 a3 σ = some (r, σ')) : Sp G l yX10_drop cX10_drop 4 (some .int) (lvl 4) [vR (0, 0, 0), vI a1, vI a2, vI a3] σ (va_Qi (fun a b => a = r ∧ b = σ') (Wd G) (AG G)) := by
  refine Sp_of (own := RX10) (by decide) rfl (Nat.le_of_ble_eq_true rfl) ?_
  intro p e s m args below meth c C
  show Rt G p l e (lvl 4) s m args below meth c 0 0 (MQ below (va_Qi (fun a b => a = r ∧ b = σ') (Wd G) (AG G)) args s 0 0 (AG G)) 4 0 [(0, vR (0, 0, 0)), (1, vI a1), (2, vI a2), (3, vI a3)] [] σ
  unfold F_X10_drop at hF
  refine r_aload_n C 0 0 dX10_drop_0 rfl rfl ?_
  refine r_iload_n C 1 1 dX10_drop_1 rfl rfl ?_
  refine r_iload_n C 2 2 dX10_drop_2 rfl rfl ?_
  refine r_iload_n C 3 3 dX10_drop_3 rfl rfl ?_
  obtain ⟨r2, σ1, e3, hF⟩ := bd_e hF
  refine r_callV_i (as := [vI a1, vI a2, vI a3]) (st := []) C dX10_drop_4 (s_X10_setDown G l e3) rfl rfl rfl t_3_150 t_3_152 t_s_10 t_1_1 t_3_153 m_X10_setDown ⟨Nat.le_of_ble_eq_true rfl, Nat.le_of_ble_eq_true rfl⟩ ⟨rfl, rfl⟩ ⟨Nat.zero_le _, Nat.zero_le _⟩ rfl (Nat.le_of_ble_eq_true rfl) ?_
  exact r_ireturn C dX10_drop_7 (rt_e hF)
def F_X6_touches (q0 : Nat) (q1 : Nat) (i1 : Nat) (σ : St) : Option (Int32 × St) :=
  (if (σ.1 (7, q0, 0) 6) = 0 then some ((1 : Int32), σ) else bd (F_X6_kindAt q0 (σ.1 (10, q1, i1) 0) σ) fun r2 σ1 => (if r2 = (7 : Int32) then some ((1 : Int32), σ1) else some ((0 : Int32), σ1)))
set_option maxRecDepth 20000 in
set_option maxHeartbeats 4000000 in
theorem s_X6_touches (G : Gx) (l : Launch) {q0 : Nat} {q1 : Nat} {i1 : Nat} {σ σ' : St} {r : Int32} (hF : F_X6_touches q0 q1 i1 σ = some (r, σ')) : Sp G l yX6_touches cX6_touches 2 (some .boolean) (lvl 1) [vR (7, q0, 0), vR (10, q1, i1)] σ (va_Qi (fun a b => a = r ∧ b = σ') (Wd G) (AG G)) := by
  refine Sp_of (own := RX6) (by decide) rfl (Nat.le_of_ble_eq_true rfl) ?_
  intro p e s m args below meth c C
  show Rt G p l e (lvl 1) s m args below meth c 0 0 (MQ below (va_Qi (fun a b => a = r ∧ b = σ') (Wd G) (AG G)) args s 0 0 (AG G)) 2 0 [(0, vR (7, q0, 0)), (1, vR (10, q1, i1))] [] σ
  unfold F_X6_touches at hF
  refine r_aload_n C 0 0 dX6_touches_0 rfl rfl ?_
  refine r_getI (kf := 6) C dX6_touches_1 rfl rfl f_X6 (by decide) t_1_166 rfl ?_
  refine r_if_eq C 20 dX6_touches_4 (by decide)  (fun h5 => ?_) (fun h5 => ?_)
  · have hF := if_t h5 hF
    refine r_iconst (v := (1 : Int32)) C dX6_touches_20 rfl ?_
    refine r_goto C 25 dX6_touches_21 (by decide) ?_
    exact r_zreturn C dX6_touches_25 (nar_z (Or.inr rfl)) (rt_e hF)
  · have hF := if_f h5 hF
    refine r_aload_n C 0 0 dX6_touches_7 rfl rfl ?_
    refine r_aload_n C 1 1 dX6_touches_8 rfl rfl ?_
    refine r_getI (kf := 0) C dX6_touches_9 rfl rfl f_X0 (by decide) t_1_120 rfl ?_
    obtain ⟨r2, σ1, e3, hF⟩ := bd_e hF
    refine r_callV_i (as := [vI (σ.1 (10, q1, i1) 0)]) (st := []) C dX6_touches_12 (s_X6_kindAt G l e3) rfl rfl rfl t_3_167 t_3_124 t_3_125 t_1_5 t_3_126 m_X6_kindAt ⟨Nat.le_of_ble_eq_true rfl, Nat.le_of_ble_eq_true rfl⟩ ⟨rfl, rfl⟩ ⟨Nat.zero_le _, Nat.zero_le _⟩ rfl (Nat.le_of_ble_eq_true rfl) ?_
    refine r_bipush (v := (7 : Int32)) C dX6_touches_15 rfl ?_
    refine r_icmp_ne C 24 dX6_touches_17 (by decide)  (fun h4 => ?_) (fun h4 => ?_)
    · have hF := if_f h4 hF
      refine r_iconst (v := (0 : Int32)) C dX6_touches_24 rfl ?_
      exact r_zreturn C dX6_touches_25 (nar_z (Or.inl rfl)) (rt_e hF)
    · have hF := if_t h4 hF
      refine r_iconst (v := (1 : Int32)) C dX6_touches_20 rfl ?_
      refine r_goto C 25 dX6_touches_21 (by decide) ?_
      exact r_zreturn C dX6_touches_25 (nar_z (Or.inr rfl)) (rt_e hF)
def F_X5_losesFloatingAt (q0 : Nat) (a1 : Int32) (σ : St) : Option (Int32 × St) :=
  ck (inb (7 : Int32) 9) (nam (σ.1 (4, q0, 0) 7) fun x2 => (if x2 ≤ 0 then some ((0 : Int32), σ) else ck (decide (¬ x2 = 0)) ((if (a1 - a1 / x2 * x2) = 0 then some ((1 : Int32), σ) else some ((0 : Int32), σ)))))
set_option maxRecDepth 20000 in
set_option maxHeartbeats 4000000 in
theorem s_X5_losesFloatingAt (G : Gx) (l : Launch) {q0 : Nat} {a1 : Int32} {σ σ' : St} {r : Int32} (hF : F_X5_losesFloatingAt q0 a1 σ = some (r, σ')) : Sp G l yX5_losesFloatingAt cX5_losesFloatingAt 3 (some .boolean) (lvl 0) [vR (3, q0, 0), vI a1] σ (va_Qi (fun a b => a = r ∧ b = σ') (Wd G) (AG G)) := by
  refine Sp_of (own := RX5) (by decide) rfl (Nat.le_of_ble_eq_true rfl) ?_
  intro p e s m args below meth c C
  show Rt G p l e (lvl 0) s m args below meth c 0 0 (MQ below (va_Qi (fun a b => a = r ∧ b = σ') (Wd G) (AG G)) args s 0 0 (AG G)) 3 0 [(0, vR (3, q0, 0)), (1, vI a1)] [] σ
  unfold F_X5_losesFloatingAt at hF
  refine r_aload_n C 0 0 dX5_losesFloatingAt_0 rfl rfl ?_
  refine r_getR (kf := 0) (d2 := (4, q0, 0)) C dX5_losesFloatingAt_1 rfl rfl f_X5 (by decide) t_1_50 rfl rfl ?_
  refine r_bipush (v := (7 : Int32)) C dX5_losesFloatingAt_4 rfl ?_
  obtain ⟨h1, hF⟩ := ck_e hF
  refine r_iaload C 7 dX5_losesFloatingAt_6 rfl h1 rfl ?_
  obtain ⟨x2, ex2, hF⟩ := nam_e hF
  refine r_topI ex2 ?_
  refine r_istore_n (ls2 := [(2, vI x2), (0, vR (3, q0, 0)), (1, vI a1)]) C dX5_losesFloatingAt_7 2 rfl (by decide) rfl ?_
  refine r_iload_n C 0 2 dX5_losesFloatingAt_8 rfl rfl ?_
  refine r_if_le C 22 dX5_losesFloatingAt_9 (by decide)  (fun h5 => ?_) (fun h5 => ?_)
  · have hF := if_t h5 hF
    refine r_iconst (v := (0 : Int32)) C dX5_losesFloatingAt_22 rfl ?_
    exact r_zreturn C dX5_losesFloatingAt_23 (nar_z (Or.inl rfl)) (rt_e hF)
  · have hF := if_f h5 hF
    refine r_iload_n C 2 1 dX5_losesFloatingAt_12 rfl rfl ?_
    refine r_iload_n C 0 2 dX5_losesFloatingAt_13 rfl rfl ?_
    obtain ⟨h3, hF⟩ := ck_e hF
    refine r_irem C dX5_losesFloatingAt_14 (nz h3) ?_
    refine r_if_ne C 22 dX5_losesFloatingAt_15 (by decide)  (fun h4 => ?_) (fun h4 => ?_)
    · have hF := if_f h4 hF
      refine r_iconst (v := (0 : Int32)) C dX5_losesFloatingAt_22 rfl ?_
      exact r_zreturn C dX5_losesFloatingAt_23 (nar_z (Or.inl rfl)) (rt_e hF)
    · have hF := if_t h4 hF
      refine r_iconst (v := (1 : Int32)) C dX5_losesFloatingAt_18 rfl ?_
      refine r_goto C 23 dX5_losesFloatingAt_19 (by decide) ?_
      exact r_zreturn C dX5_losesFloatingAt_23 (nar_z (Or.inr rfl)) (rt_e hF)
def F_X6_drawWay (q0 : Nat) (σ : St) : Option (Int32 × St) :=
  nam (uI σ (7, q0, 0) 5 (((σ.1 (7, q0, 0) 5) * (1103515245 : Int32)) + (12345 : Int32))) fun σ1 => some ((((σ1.1 (7, q0, 0) 5).toUInt32 >>> ((16 : Int32).toUInt32 &&& Int32.toUInt32 31)).toInt32) &&& (3 : Int32), σ1)
set_option maxRecDepth 20000 in
set_option maxHeartbeats 4000000 in
theorem s_X6_drawWay (G : Gx) (l : Launch) {q0 : Nat} {σ σ' : St} {r : Int32} (hF : F_X6_drawWay q0 σ = some (r, σ')) : Sp G l yX6_drawWay cX6_drawWay 1 (some .int) (lvl 0) [vR (7, q0, 0)] σ (va_Qi (fun a b => a = r ∧ b = σ') (Wd G) (AG G)) := by
  refine Sp_of (own := RX6) (by decide) rfl (Nat.le_of_ble_eq_true rfl) ?_
  intro p e s m args below meth c C
  show Rt G p l e (lvl 0) s m args below meth c 0 0 (MQ below (va_Qi (fun a b => a = r ∧ b = σ') (Wd G) (AG G)) args s 0 0 (AG G)) 1 0 [(0, vR (7, q0, 0))] [] σ
  unfold F_X6_drawWay at hF
  refine r_aload_n C 0 0 dX6_drawWay_0 rfl rfl ?_
  refine r_aload_n C 0 0 dX6_drawWay_1 rfl rfl ?_
  refine r_getI (kf := 5) C dX6_drawWay_2 rfl rfl f_X6 (by decide) t_1_164 rfl ?_
  refine r_ldc (v := (1103515245 : Int32)) C dX6_drawWay_5 t_3_229 ?_
  refine r_imul C dX6_drawWay_7 ?_
  refine r_sipush (v := (12345 : Int32)) C dX6_drawWay_8 rfl ?_
  refine r_iadd C dX6_drawWay_11 ?_
  obtain ⟨σ1, eσ1, hF⟩ := nam_e hF
  refine r_put (kf := 5) (ty0 := tyX6) C dX6_drawWay_12 rfl rfl f_X6 tyX6_ok nmX6 (by decide) t_1_164 rfl rfl rfl rfl eσ1 ?_
  refine r_aload_n C 0 0 dX6_drawWay_15 rfl rfl ?_
  refine r_getI (kf := 5) C dX6_drawWay_16 rfl rfl f_X6 (by decide) t_1_164 rfl ?_
  refine r_bipush (v := (16 : Int32)) C dX6_drawWay_19 rfl ?_
  refine r_iushr C dX6_drawWay_21 ?_
  refine r_iconst (v := (3 : Int32)) C dX6_drawWay_22 rfl ?_
  refine r_iand C dX6_drawWay_23 ?_
  exact r_ireturn C dX6_drawWay_24 (rt_e hF)
def F_X5_teethSend (q0 : Nat) (a1 : Int32) (σ : St) : Option (Int32 × St) :=
  ck (inb (2 : Int32) 9) ((if a1 < (σ.1 (4, q0, 0) 2) then some ((0 : Int32), σ) else ck (inb (3 : Int32) 9) ((if (σ.1 (4, q0, 0) 3) < a1 then some ((0 : Int32), σ) else some ((1 : Int32), σ)))))
set_option maxRecDepth 20000 in
set_option maxHeartbeats 4000000 in
theorem s_X5_teethSend (G : Gx) (l : Launch) {q0 : Nat} {a1 : Int32} {σ σ' : St} {r : Int32} (hF : F_X5_teethSend q0 a1 σ = some (r, σ')) : Sp G l yX5_teethSend cX5_teethSend 2 (some .boolean) (lvl 0) [vR (3, q0, 0), vI a1] σ (va_Qi (fun a b => a = r ∧ b = σ') (Wd G) (AG G)) := by
  refine Sp_of (own := RX5) (by decide) rfl (Nat.le_of_ble_eq_true rfl) ?_
  intro p e s m args below meth c C
  show Rt G p l e (lvl 0) s m args below meth c 0 0 (MQ below (va_Qi (fun a b => a = r ∧ b = σ') (Wd G) (AG G)) args s 0 0 (AG G)) 2 0 [(0, vR (3, q0, 0)), (1, vI a1)] [] σ
  unfold F_X5_teethSend at hF
  refine r_iload_n C 1 1 dX5_teethSend_0 rfl rfl ?_
  refine r_aload_n C 0 0 dX5_teethSend_1 rfl rfl ?_
  refine r_getR (kf := 0) (d2 := (4, q0, 0)) C dX5_teethSend_2 rfl rfl f_X5 (by decide) t_1_50 rfl rfl ?_
  refine r_iconst (v := (2 : Int32)) C dX5_teethSend_5 rfl ?_
  obtain ⟨h1, hF⟩ := ck_e hF
  refine r_iaload C 2 dX5_teethSend_6 rfl h1 rfl ?_
  refine r_icmp_lt C 24 dX5_teethSend_7 (by decide)  (fun h4 => ?_) (fun h4 => ?_)
  · have hF := if_t h4 hF
    refine r_iconst (v := (0 : Int32)) C dX5_teethSend_24 rfl ?_
    exact r_zreturn C dX5_teethSend_25 (nar_z (Or.inl rfl)) (rt_e hF)
  · have hF := if_f h4 hF
    refine r_iload_n C 1 1 dX5_teethSend_10 rfl rfl ?_
    refine r_aload_n C 0 0 dX5_teethSend_11 rfl rfl ?_
    refine r_getR (kf := 0) (d2 := (4, q0, 0)) C dX5_teethSend_12 rfl rfl f_X5 (by decide) t_1_50 rfl rfl ?_
    refine r_iconst (v := (3 : Int32)) C dX5_teethSend_15 rfl ?_
    obtain ⟨h2, hF⟩ := ck_e hF
    refine r_iaload C 3 dX5_teethSend_16 rfl h2 rfl ?_
    refine r_icmp_gt C 24 dX5_teethSend_17 (by decide)  (fun h3 => ?_) (fun h3 => ?_)
    · have hF := if_t h3 hF
      refine r_iconst (v := (0 : Int32)) C dX5_teethSend_24 rfl ?_
      exact r_zreturn C dX5_teethSend_25 (nar_z (Or.inl rfl)) (rt_e hF)
    · have hF := if_f h3 hF
      refine r_iconst (v := (1 : Int32)) C dX5_teethSend_20 rfl ?_
      refine r_goto C 25 dX5_teethSend_21 (by decide) ?_
      exact r_zreturn C dX5_teethSend_25 (nar_z (Or.inr rfl)) (rt_e hF)
def F_X6_wayOf (q0 : Nat) (q1 : Nat) (i1 : Nat) (q2 : Nat) (a3 : Int32) (σ : St) : Option (Int32 × St) :=
  bd (F_X6_kindAt q0 (σ.1 (10, q1, i1) 0) σ) fun r2 σ1 => (if (4 : Int32) ≤ r2 then (if a3 < (σ1.1 (10, q1, i1) 1) then some (σ1.1 (10, q1, i1) 2, σ1) else bd (F_X6_drawWay q0 σ1) fun r5 σ4 => some (r5, σ4)) else bd (F_X5_teethSend q2 (σ1.1 (10, q1, i1) 1) σ1) fun r9 σ8 => (if r9 = 0 then some (σ8.1 (10, q1, i1) 2, σ8) else some (r2, σ8)))
set_option maxRecDepth 20000 in
set_option maxHeartbeats 4000000 in
theorem s_X6_wayOf (G : Gx) (l : Launch) {q0 : Nat} {q1 : Nat} {i1 : Nat} {q2 : Nat} {a3 : Int32} {σ σ' : St} {r : Int32} (hF : F_X6_wayOf q0 q1 i1 q2 a3 σ = some (r, σ')) : Sp G l yX6_wayOf cX6_wayOf 5 (some .int) (lvl 1) [vR (7, q0, 0), vR (10, q1, i1), vR (3, q2, 0), vI a3] σ (va_Qi (fun a b => a = r ∧ b = σ') (Wd G) (AG G)) := by
  refine Sp_of (own := RX6) (by decide) rfl (Nat.le_of_ble_eq_true rfl) ?_
  intro p e s m args below meth c C
  show Rt G p l e (lvl 1) s m args below meth c 0 0 (MQ below (va_Qi (fun a b => a = r ∧ b = σ') (Wd G) (AG G)) args s 0 0 (AG G)) 5 0 [(0, vR (7, q0, 0)), (1, vR (10, q1, i1)), (2, vR (3, q2, 0)), (3, vI a3)] [] σ
  unfold F_X6_wayOf at hF
  refine r_aload_n C 0 0 dX6_wayOf_0 rfl rfl ?_
  refine r_aload_n C 1 1 dX6_wayOf_1 rfl rfl ?_
  refine r_getI (kf := 0) C dX6_wayOf_2 rfl rfl f_X0 (by decide) t_1_120 rfl ?_
  obtain ⟨r2, σ1, e3, hF⟩ := bd_e hF
  refine r_callV_i (as := [vI (σ.1 (10, q1, i1) 0)]) (st := []) C dX6_wayOf_5 (s_X6_kindAt G l e3) rfl rfl rfl t_3_167 t_3_124 t_3_125 t_1_5 t_3_126 m_X6_kindAt ⟨Nat.le_of_ble_eq_true rfl, Nat.le_of_ble_eq_true rfl⟩ ⟨rfl, rfl⟩ ⟨Nat.zero_le _, Nat.zero_le _⟩ rfl (Nat.le_of_ble_eq_true rfl) ?_
  refine r_istore (ls2 := [(4, vI r2), (0, vR (7, q0, 0)), (1, vR (10, q1, i1)), (2, vR (3, q2, 0)), (3, vI a3)]) C dX6_wayOf_8 (by decide) rfl ?_
  refine r_iload C 0 dX6_wayOf_10 rfl ?_
  refine r_iconst (v := (4 : Int32)) C dX6_wayOf_12 rfl ?_
  refine r_icmp_ge C 37 dX6_wayOf_13 (by decide)  (fun h12 => ?_) (fun h12 => ?_)
  · have hF := if_t h12 hF
    refine r_aload_n C 2 1 dX6_wayOf_37 rfl rfl ?_
    refine r_getI (kf := 1) C dX6_wayOf_38 rfl rfl f_X0 (by decide) t_1_123 rfl ?_
    refine r_iload_n C 4 3 dX6_wayOf_41 rfl rfl ?_
    refine r_icmp_gt C 52 dX6_wayOf_42 (by decide)  (fun h7 => ?_) (fun h7 => ?_)
    · have hF := if_t h7 hF
      refine r_aload_n C 2 1 dX6_wayOf_52 rfl rfl ?_
      refine r_getI (kf := 2) C dX6_wayOf_53 rfl rfl f_X0 (by decide) t_1_128 rfl ?_
      exact r_ireturn C dX6_wayOf_56 (rt_e hF)
    · have hF := if_f h7 hF
      refine r_aload_n C 1 0 dX6_wayOf_45 rfl rfl ?_
      obtain ⟨r5, σ4, e6, hF⟩ := bd_e hF
      refine r_callV_i (as := []) (st := []) C dX6_wayOf_46 (s_X6_drawWay G l e6) rfl rfl rfl t_3_225 t_3_227 t_s_14 t_1_5 t_3_228 m_X6_drawWay ⟨Nat.le_of_ble_eq_true rfl, Nat.le_of_ble_eq_true rfl⟩ ⟨rfl, rfl⟩ ⟨Nat.zero_le _, Nat.zero_le _⟩ rfl (Nat.le_of_ble_eq_true rfl) ?_
      refine r_goto C 56 dX6_wayOf_49 (by decide) ?_
      exact r_ireturn C dX6_wayOf_56 (rt_e hF)
  · have hF := if_f h12 hF
    refine r_aload_n C 3 2 dX6_wayOf_16 rfl rfl ?_
    refine r_aload_n C 2 1 dX6_wayOf_17 rfl rfl ?_
    refine r_getI (kf := 1) C dX6_wayOf_18 rfl rfl f_X0 (by decide) t_1_123 rfl ?_
    obtain ⟨r9, σ8, e10, hF⟩ := bd_e hF
    refine r_callV_i (as := [vI (σ1.1 (10, q1, i1) 1)]) (st := []) C dX6_wayOf_21 (s_X5_teethSend G l e10) rfl rfl rfl t_3_221 t_3_222 t_3_223 t_1_3 t_3_224 m_X5_teethSend ⟨Nat.le_of_ble_eq_true rfl, Nat.le_of_ble_eq_true rfl⟩ ⟨rfl, rfl⟩ ⟨Nat.zero_le _, Nat.zero_le _⟩ rfl (Nat.le_of_ble_eq_true rfl) ?_
    refine r_if_eq C 32 dX6_wayOf_24 (by decide)  (fun h11 => ?_) (fun h11 => ?_)
    · have hF := if_t h11 hF
      refine r_aload_n C 2 1 dX6_wayOf_32 rfl rfl ?_
      refine r_getI (kf := 2) C dX6_wayOf_33 rfl rfl f_X0 (by decide) t_1_128 rfl ?_
      exact r_ireturn C dX6_wayOf_36 (rt_e hF)
    · have hF := if_f h11 hF
      refine r_iload C 0 dX6_wayOf_27 rfl ?_
      refine r_goto C 36 dX6_wayOf_29 (by decide) ?_
      exact r_ireturn C dX6_wayOf_36 (rt_e hF)
def F_X10_nextCell (a0 : Int32) (a1 : Int32) (σ : St) : Option (Int32 × St) :=
  ck (decide (¬ (12 : Int32) = 0)) (nam (a0 / (12 : Int32)) fun x2 => ck (decide (¬ (12 : Int32) = 0)) (nam (a0 - a0 / (12 : Int32) * (12 : Int32)) fun x4 => (if a1 = (0 : Int32) then (if x2 ≤ 0 then some ((-4 : Int32), σ) else some (a0 - (12 : Int32), σ)) else (if a1 = (1 : Int32) then (if (11 : Int32) ≤ x4 then some ((-4 : Int32), σ) else some (a0 + (1 : Int32), σ)) else (if a1 = (2 : Int32) then (if (7 : Int32) ≤ x2 then some ((-4 : Int32), σ) else some (a0 + (12 : Int32), σ)) else (if a1 = (3 : Int32) then (if x4 ≤ 0 then some ((-4 : Int32), σ) else some (a0 - (1 : Int32), σ)) else some ((-4 : Int32), σ)))))))
set_option maxRecDepth 20000 in
set_option maxHeartbeats 4000000 in
theorem s_X10_nextCell (G : Gx) (l : Launch) {a0 : Int32} {a1 : Int32} {σ σ' : St} {r : Int32} (hF : F_X10_nextCell a0 a1 σ = some (r, σ')) : Sp G l yX10_nextCell cX10_nextCell 4 (some .int) (lvl 0) [vI a0, vI a1] σ (va_Qi (fun a b => a = r ∧ b = σ') (Wd G) (AG G)) := by
  refine Sp_of (own := RX10) (by decide) rfl (Nat.le_of_ble_eq_true rfl) ?_
  intro p e s m args below meth c C
  show Rt G p l e (lvl 0) s m args below meth c 0 0 (MQ below (va_Qi (fun a b => a = r ∧ b = σ') (Wd G) (AG G)) args s 0 0 (AG G)) 4 0 [(0, vI a0), (1, vI a1)] [] σ
  unfold F_X10_nextCell at hF
  refine r_iload_n C 0 0 dX10_nextCell_0 rfl rfl ?_
  refine r_bipush (v := (12 : Int32)) C dX10_nextCell_1 rfl ?_
  obtain ⟨h1, hF⟩ := ck_e hF
  refine r_idiv C dX10_nextCell_3 (nz h1) ?_
  obtain ⟨x2, ex2, hF⟩ := nam_e hF
  refine r_topI ex2 ?_
  refine r_istore_n (ls2 := [(2, vI x2), (0, vI a0), (1, vI a1)]) C dX10_nextCell_4 2 rfl (by decide) rfl ?_
  refine r_iload_n C 1 0 dX10_nextCell_5 rfl rfl ?_
  refine r_bipush (v := (12 : Int32)) C dX10_nextCell_6 rfl ?_
  obtain ⟨h3, hF⟩ := ck_e hF
  refine r_irem C dX10_nextCell_8 (nz h3) ?_
  obtain ⟨x4, ex4, hF⟩ := nam_e hF
  refine r_topI ex4 ?_
  refine r_istore_n (ls2 := [(3, vI x4), (2, vI x2), (0, vI a0), (1, vI a1)]) C dX10_nextCell_9 3 rfl (by decide) rfl ?_
  refine r_iload_n C 3 1 dX10_nextCell_10 rfl rfl ?_
  by_cases h5 : a1 = (0 : Int32)
  · have hF := if_t h5 hF
    refine r_tabIn (off := 29) C 40 dX10_nextCell_11 (by rw [h5]; decide) (by rw [h5]; decide) (by rw [h5]; rfl) (by decide) ?_
    refine r_iload_n C 1 2 dX10_nextCell_40 rfl rfl ?_
    refine r_if_le C 51 dX10_nextCell_41 (by decide)  (fun h6 => ?_) (fun h6 => ?_)
    · have hF := if_t h6 hF
      refine r_bipush (v := (-4 : Int32)) C dX10_nextCell_51 rfl ?_
      exact r_ireturn C dX10_nextCell_53 (rt_e hF)
    · have hF := if_f h6 hF
      refine r_iload_n C 2 0 dX10_nextCell_44 rfl rfl ?_
      refine r_bipush (v := (12 : Int32)) C dX10_nextCell_45 rfl ?_
      refine r_isub C dX10_nextCell_47 ?_
      refine r_goto C 53 dX10_nextCell_48 (by decide) ?_
      exact r_ireturn C dX10_nextCell_53 (rt_e hF)
  have hF := if_f h5 hF
  by_cases h7 : a1 = (1 : Int32)
  · have hF := if_t h7 hF
    refine r_tabIn (off := 43) C 54 dX10_nextCell_11 (by rw [h7]; decide) (by rw [h7]; decide) (by rw [h7]; rfl) (by decide) ?_
    refine r_iload_n C 0 3 dX10_nextCell_54 rfl rfl ?_
    refine r_bipush (v := (11 : Int32)) C dX10_nextCell_55 rfl ?_
    refine r_icmp_ge C 66 dX10_nextCell_57 (by decide)  (fun h8 => ?_) (fun h8 => ?_)
    · have hF := if_t h8 hF
      refine r_bipush (v := (-4 : Int32)) C dX10_nextCell_66 rfl ?_
      exact r_ireturn C dX10_nextCell_68 (rt_e hF)
    · have hF := if_f h8 hF
      refine r_iload_n C 2 0 dX10_nextCell_60 rfl rfl ?_
      refine r_iconst (v := (1 : Int32)) C dX10_nextCell_61 rfl ?_
      refine r_iadd C dX10_nextCell_62 ?_
      refine r_goto C 68 dX10_nextCell_63 (by decide) ?_
      exact r_ireturn C dX10_nextCell_68 (rt_e hF)
  have hF := if_f h7 hF
  by_cases h9 : a1 = (2 : Int32)
  · have hF := if_t h9 hF
    refine r_tabIn (off := 58) C 69 dX10_nextCell_11 (by rw [h9]; decide) (by rw [h9]; decide) (by rw [h9]; rfl) (by decide) ?_
    refine r_iload_n C 1 2 dX10_nextCell_69 rfl rfl ?_
    refine r_bipush (v := (7 : Int32)) C dX10_nextCell_70 rfl ?_
    refine r_icmp_ge C 82 dX10_nextCell_72 (by decide)  (fun h10 => ?_) (fun h10 => ?_)
    · have hF := if_t h10 hF
      refine r_bipush (v := (-4 : Int32)) C dX10_nextCell_82 rfl ?_
      exact r_ireturn C dX10_nextCell_84 (rt_e hF)
    · have hF := if_f h10 hF
      refine r_iload_n C 2 0 dX10_nextCell_75 rfl rfl ?_
      refine r_bipush (v := (12 : Int32)) C dX10_nextCell_76 rfl ?_
      refine r_iadd C dX10_nextCell_78 ?_
      refine r_goto C 84 dX10_nextCell_79 (by decide) ?_
      exact r_ireturn C dX10_nextCell_84 (rt_e hF)
  have hF := if_f h9 hF
  by_cases h11 : a1 = (3 : Int32)
  · have hF := if_t h11 hF
    refine r_tabIn (off := 74) C 85 dX10_nextCell_11 (by rw [h11]; decide) (by rw [h11]; decide) (by rw [h11]; rfl) (by decide) ?_
    refine r_iload_n C 0 3 dX10_nextCell_85 rfl rfl ?_
    refine r_if_le C 95 dX10_nextCell_86 (by decide)  (fun h12 => ?_) (fun h12 => ?_)
    · have hF := if_t h12 hF
      refine r_bipush (v := (-4 : Int32)) C dX10_nextCell_95 rfl ?_
      exact r_ireturn C dX10_nextCell_97 (rt_e hF)
    · have hF := if_f h12 hF
      refine r_iload_n C 2 0 dX10_nextCell_89 rfl rfl ?_
      refine r_iconst (v := (1 : Int32)) C dX10_nextCell_90 rfl ?_
      refine r_isub C dX10_nextCell_91 ?_
      refine r_goto C 97 dX10_nextCell_92 (by decide) ?_
      exact r_ireturn C dX10_nextCell_97 (rt_e hF)
  have hF := if_f h11 hF
  refine r_tabOut C 98 dX10_nextCell_11 (by have u0 := lv_neT h5 (a := 0) rfl; have u1 := lv_neT h7 (a := 1) rfl; have u2 := lv_neT h9 (a := 2) rfl; have u3 := lv_neT h11 (a := 3) rfl; omega) (by decide) ?_
  refine r_bipush (v := (-4 : Int32)) C dX10_nextCell_98 rfl ?_
  exact r_ireturn C dX10_nextCell_100 (rt_e hF)
def F_X6_stepOn (q0 : Nat) (q1 : Nat) (i1 : Nat) (a2 : Int32) (σ : St) : Option (Unit × St) :=
  bd (F_X10_nextCell (σ.1 (10, q1, i1) 0) a2 σ) fun r2 σ1 => bd (F_X6_kindAt q0 r2 σ1) fun r5 σ4 => (if r5 = (5 : Int32) then nam (uI σ4 (10, q1, i1) 2 ((a2 + (1 : Int32)) &&& (3 : Int32))) fun σ9 => some ((), σ9) else nam (uI σ4 (10, q1, i1) 0 r2) fun σ7 => nam (uI σ7 (10, q1, i1) 2 a2) fun σ8 => some ((), σ8))
set_option maxRecDepth 20000 in
set_option maxHeartbeats 4000000 in
theorem s_X6_stepOn (G : Gx) (l : Launch) {q0 : Nat} {q1 : Nat} {i1 : Nat} {a2 : Int32} {σ σ' : St}  (hF : F_X6_stepOn q0 q1 i1 a2 σ = some ((), σ')) : Sp G l yX6_stepOn cX6_stepOn 4 none (lvl 1) [vR (7, q0, 0), vR (10, q1, i1), vI a2] σ (va_Qv (fun b => b = σ') (Wd G) (AG G)) := by
  refine Sp_of (own := RX6) (by decide) rfl (Nat.le_of_ble_eq_true rfl) ?_
  intro p e s m args below meth c C
  show Rt G p l e (lvl 1) s m args below meth c 0 0 (MQ below (va_Qv (fun b => b = σ') (Wd G) (AG G)) args s 0 0 (AG G)) 4 0 [(0, vR (7, q0, 0)), (1, vR (10, q1, i1)), (2, vI a2)] [] σ
  unfold F_X6_stepOn at hF
  refine r_aload_n C 1 1 dX6_stepOn_0 rfl rfl ?_
  refine r_getI (kf := 0) C dX6_stepOn_1 rfl rfl f_X0 (by decide) t_1_120 rfl ?_
  refine r_iload_n C 2 2 dX6_stepOn_4 rfl rfl ?_
  obtain ⟨r2, σ1, e3, hF⟩ := bd_e hF
  refine r_callN_i (as := [vI (σ.1 (10, q1, i1) 0), vI a2]) (st := []) C dX6_stepOn_5 (s_X10_nextCell G l e3) (by decide) t_3_235 t_1_1 t_3_236 m_X10_nextCell ⟨Nat.le_of_ble_eq_true rfl, Nat.le_of_ble_eq_true rfl⟩ ⟨rfl, rfl⟩ ⟨Nat.zero_le _, Nat.zero_le _⟩ rfl (Nat.le_of_ble_eq_true rfl) ?_
  refine r_istore_n (ls2 := [(3, vI r2), (0, vR (7, q0, 0)), (1, vR (10, q1, i1)), (2, vI a2)]) C dX6_stepOn_8 3 rfl (by decide) rfl ?_
  refine r_aload_n C 1 0 dX6_stepOn_9 rfl rfl ?_
  refine r_iload_n C 0 3 dX6_stepOn_10 rfl rfl ?_
  obtain ⟨r5, σ4, e6, hF⟩ := bd_e hF
  refine r_callV_i (as := [vI r2]) (st := []) C dX6_stepOn_11 (s_X6_kindAt G l e6) rfl rfl rfl t_3_167 t_3_124 t_3_125 t_1_5 t_3_126 m_X6_kindAt ⟨Nat.le_of_ble_eq_true rfl, Nat.le_of_ble_eq_true rfl⟩ ⟨rfl, rfl⟩ ⟨Nat.zero_le _, Nat.zero_le _⟩ rfl (Nat.le_of_ble_eq_true rfl) ?_
  refine r_iconst (v := (5 : Int32)) C dX6_stepOn_14 rfl ?_
  refine r_icmp_ne C 30 dX6_stepOn_15 (by decide)  (fun h10 => ?_) (fun h10 => ?_)
  · have hF := if_f h10 hF
    refine r_aload_n C 2 1 dX6_stepOn_30 rfl rfl ?_
    refine r_iload_n C 0 3 dX6_stepOn_31 rfl rfl ?_
    obtain ⟨σ7, eσ7, hF⟩ := nam_e hF
    refine r_put (kf := 0) (ty0 := tyX0) C dX6_stepOn_32 rfl rfl f_X0 tyX0_ok nmX0 (by decide) t_1_120 rfl rfl rfl rfl eσ7 ?_
    refine r_aload_n C 2 1 dX6_stepOn_35 rfl rfl ?_
    refine r_iload_n C 3 2 dX6_stepOn_36 rfl rfl ?_
    obtain ⟨σ8, eσ8, hF⟩ := nam_e hF
    refine r_put (kf := 2) (ty0 := tyX0) C dX6_stepOn_37 rfl rfl f_X0 tyX0_ok nmX0 (by decide) t_1_128 rfl rfl rfl rfl eσ8 ?_
    exact r_return C dX6_stepOn_40 (rv_e hF)
  · have hF := if_t h10 hF
    refine r_aload_n C 2 1 dX6_stepOn_18 rfl rfl ?_
    refine r_iload_n C 3 2 dX6_stepOn_19 rfl rfl ?_
    refine r_iconst (v := (1 : Int32)) C dX6_stepOn_20 rfl ?_
    refine r_iadd C dX6_stepOn_21 ?_
    refine r_iconst (v := (3 : Int32)) C dX6_stepOn_22 rfl ?_
    refine r_iand C dX6_stepOn_23 ?_
    obtain ⟨σ9, eσ9, hF⟩ := nam_e hF
    refine r_put (kf := 2) (ty0 := tyX0) C dX6_stepOn_24 rfl rfl f_X0 tyX0_ok nmX0 (by decide) t_1_128 rfl rfl rfl rfl eσ9 ?_
    refine r_goto C 40 dX6_stepOn_27 (by decide) ?_
    exact r_return C dX6_stepOn_40 (rv_e hF)
def F_X6_leave (q0 : Nat) (q1 : Nat) (i1 : Nat) (a2 : Int32) (σ : St) : Option (Unit × St) :=
  nam (uI σ (10, q1, i1) 3 a2) fun σ1 => nam (uI σ1 (10, q1, i1) 4 (σ1.1 (7, q0, 0) 4)) fun σ2 => some ((), σ2)
set_option maxRecDepth 20000 in
set_option maxHeartbeats 4000000 in
theorem s_X6_leave (G : Gx) (l : Launch) {q0 : Nat} {q1 : Nat} {i1 : Nat} {a2 : Int32} {σ σ' : St}  (hF : F_X6_leave q0 q1 i1 a2 σ = some ((), σ')) : Sp G l yX6_leave cX6_leave 3 none (lvl 0) [vR (7, q0, 0), vR (10, q1, i1), vI a2] σ (va_Qv (fun b => b = σ') (Wd G) (AG G)) := by
  refine Sp_of (own := RX6) (by decide) rfl (Nat.le_of_ble_eq_true rfl) ?_
  intro p e s m args below meth c C
  show Rt G p l e (lvl 0) s m args below meth c 0 0 (MQ below (va_Qv (fun b => b = σ') (Wd G) (AG G)) args s 0 0 (AG G)) 3 0 [(0, vR (7, q0, 0)), (1, vR (10, q1, i1)), (2, vI a2)] [] σ
  unfold F_X6_leave at hF
  refine r_aload_n C 1 1 dX6_leave_0 rfl rfl ?_
  refine r_iload_n C 2 2 dX6_leave_1 rfl rfl ?_
  obtain ⟨σ1, eσ1, hF⟩ := nam_e hF
  refine r_put (kf := 3) (ty0 := tyX0) C dX6_leave_2 rfl rfl f_X0 tyX0_ok nmX0 (by decide) t_1_131 rfl rfl rfl rfl eσ1 ?_
  refine r_aload_n C 1 1 dX6_leave_5 rfl rfl ?_
  refine r_aload_n C 0 0 dX6_leave_6 rfl rfl ?_
  refine r_getI (kf := 4) C dX6_leave_7 rfl rfl f_X6 (by decide) t_1_162 rfl ?_
  obtain ⟨σ2, eσ2, hF⟩ := nam_e hF
  refine r_put (kf := 4) (ty0 := tyX0) C dX6_leave_10 rfl rfl f_X0 tyX0_ok nmX0 (by decide) t_1_135 rfl rfl rfl rfl eσ2 ?_
  exact r_return C dX6_leave_13 (rv_e hF)
def L_X6_joinWhoIsThere_2 (q0 : Nat) (q1 : Nat) (i1 : Nat) : Nat → Int32 → St → (Int32 → Nat → Nat → St → Option (Unit × St)) → Option (Unit × St)
  | 0, _, _, _ => none
  | n + 1, v2, τ, kx40 =>
  (if (τ.1 (7, q0, 0) 2) ≤ v2 then some ((), τ) else ck (inb v2 12) ((if ((10, q0, (v2.toNatClampNeg)) : Id3) = (10, q1, i1) then nam (v2 + (1 : Int32)) fun x2 => L_X6_joinWhoIsThere_2 q0 q1 i1 n x2 τ kx40 else (if (τ.1 (10, q0, (v2.toNatClampNeg)) 3) = 0 then (if (τ.1 (10, q0, (v2.toNatClampNeg)) 0) = (τ.1 (10, q1, i1) 0) then kx40 v2 q0 (v2.toNatClampNeg) τ else nam (v2 + (1 : Int32)) fun x4 => L_X6_joinWhoIsThere_2 q0 q1 i1 n x4 τ kx40) else nam (v2 + (1 : Int32)) fun x3 => L_X6_joinWhoIsThere_2 q0 q1 i1 n x3 τ kx40))))
def F_X6_joinWhoIsThere (q0 : Nat) (q1 : Nat) (i1 : Nat) (σ : St) : Option (Unit × St) :=
  L_X6_joinWhoIsThere_2 q0 q1 i1 FU (0 : Int32) σ (fun (y10 : Int32) (y11q : Nat) (y11i : Nat) (σ9 : St) => nam (uI σ9 (10, y11q, y11i) 1 ((σ9.1 (10, y11q, y11i) 1) + (σ9.1 (10, q1, i1) 1))) fun σ12 => nam (uI σ12 (10, q1, i1) 5 y10) fun σ13 => bd (F_X6_leave q0 q1 i1 (4 : Int32) σ13) fun _ σ14 => some ((), σ14))
set_option maxRecDepth 20000 in
set_option maxHeartbeats 4000000 in
theorem l_X6_joinWhoIsThere_2 {G : Gx} {p : Program} {l : Launch} {e : Env} {s : State} {m : MethodId} {args : Array Value} {below : List Frame} {meth : Method} {c : Code} (C : Cx G p s m args meth c none 4 RX6 cX6_joinWhoIsThere) (q0 : Nat) (q1 : Nat) (i1 : Nat) {σ' : St}  (kx40 : Int32 → Nat → Nat → St → Option (Unit × St)) (hkx40 : ∀ (w2 : Int32) (w3q : Nat) (w3i : Nat) (τ : St), kx40 w2 w3q w3i τ = some ((), σ') → Rt G p l e (lvl 1) s m args below meth c 0 0 (MQ below (va_Qv (fun b => b = σ') (Wd G) (AG G)) args s 0 0 (AG G)) 4 40 [(0, vR (7, q0, 0)), (1, vR (10, q1, i1)), (2, vI w2), (3, vR (10, w3q, w3i))] [] τ) : ∀ (n : Nat) (v2 : Int32) (τ : St), L_X6_joinWhoIsThere_2 q0 q1 i1 n v2 τ kx40 = some ((), σ') → Rt G p l e (lvl 1) s m args below meth c 0 0 (MQ below (va_Qv (fun b => b = σ') (Wd G) (AG G)) args s 0 0 (AG G)) 4 2 [(0, vR (7, q0, 0)), (1, vR (10, q1, i1)), (2, vI v2)] [] τ := by
  intro n
  induction n with
  | zero => intro v2 τ hF; cases hF
  | succ n ih =>
    intro v2 τ hF
    unfold L_X6_joinWhoIsThere_2 at hF
    refine r_iload_n C 2 2 dX6_joinWhoIsThere_2 rfl rfl ?_
    refine r_aload_n C 0 0 dX6_joinWhoIsThere_3 rfl rfl ?_
    refine r_getI (kf := 2) C dX6_joinWhoIsThere_4 rfl rfl f_X6 (by decide) t_1_158 rfl ?_
    refine r_icmp_ge C 71 dX6_joinWhoIsThere_7 (by decide)  (fun h8 => ?_) (fun h8 => ?_)
    · have hF := if_t h8 hF
      exact r_return C dX6_joinWhoIsThere_71 (rv_e hF)
    · have hF := if_f h8 hF
      refine r_aload_n C 0 0 dX6_joinWhoIsThere_10 rfl rfl ?_
      refine r_getR (kf := 1) (d2 := (9, q0, 0)) C dX6_joinWhoIsThere_11 rfl rfl f_X6 (by decide) t_1_155 rfl rfl ?_
      refine r_iload_n C 2 2 dX6_joinWhoIsThere_14 rfl rfl ?_
      obtain ⟨h1, hF⟩ := ck_e hF
      refine r_aaload (cA := 0) (d2 := (10, q0, (v2.toNatClampNeg))) C dX6_joinWhoIsThere_15 rfl rfl h1 rfl ?_
      refine r_astore_n (ls2 := [(3, vR (10, q0, (v2.toNatClampNeg))), (0, vR (7, q0, 0)), (1, vR (10, q1, i1)), (2, vI v2)]) C dX6_joinWhoIsThere_16 3 rfl (by decide) rfl ?_
      refine r_aload_n C 0 3 dX6_joinWhoIsThere_17 rfl rfl ?_
      refine r_aload_n C 2 1 dX6_joinWhoIsThere_18 rfl rfl ?_
      refine r_acmp_eq C 65 dX6_joinWhoIsThere_19 (by decide) (Nat.le_of_ble_eq_true rfl) (Nat.le_of_ble_eq_true rfl) (fun h7 => ?_) (fun h7 => ?_)
      · have hF := if_t h7 hF
        obtain ⟨x2, ex2, hF⟩ := nam_e hF
        refine r_iinc (v := x2) (ls2 := [(2, vI x2), (3, vR (10, q0, (v2.toNatClampNeg))), (0, vR (7, q0, 0)), (1, vR (10, q1, i1))]) C 3 dX6_joinWhoIsThere_65 rfl ex2.symm (by decide) rfl ?_
        refine r_goto C 2 dX6_joinWhoIsThere_68 (by decide) ?_
        refine r_drop (ls2 := [(0, vR (7, q0, 0)), (1, vR (10, q1, i1)), (2, vI x2)]) [2, 3, 0] rfl ?_
        exact ih _ _ hF
      · have hF := if_f h7 hF
        refine r_aload_n C 0 3 dX6_joinWhoIsThere_22 rfl rfl ?_
        refine r_getI (kf := 3) C dX6_joinWhoIsThere_23 rfl rfl f_X0 (by decide) t_1_131 rfl ?_
        refine r_if_ne C 65 dX6_joinWhoIsThere_26 (by decide)  (fun h6 => ?_) (fun h6 => ?_)
        · have hF := if_f h6 hF
          obtain ⟨x3, ex3, hF⟩ := nam_e hF
          refine r_iinc (v := x3) (ls2 := [(2, vI x3), (3, vR (10, q0, (v2.toNatClampNeg))), (0, vR (7, q0, 0)), (1, vR (10, q1, i1))]) C 3 dX6_joinWhoIsThere_65 rfl ex3.symm (by decide) rfl ?_
          refine r_goto C 2 dX6_joinWhoIsThere_68 (by decide) ?_
          refine r_drop (ls2 := [(0, vR (7, q0, 0)), (1, vR (10, q1, i1)), (2, vI x3)]) [2, 3, 0] rfl ?_
          exact ih _ _ hF
        · have hF := if_t h6 hF
          refine r_aload_n C 0 3 dX6_joinWhoIsThere_29 rfl rfl ?_
          refine r_getI (kf := 0) C dX6_joinWhoIsThere_30 rfl rfl f_X0 (by decide) t_1_120 rfl ?_
          refine r_aload_n C 2 1 dX6_joinWhoIsThere_33 rfl rfl ?_
          refine r_getI (kf := 0) C dX6_joinWhoIsThere_34 rfl rfl f_X0 (by decide) t_1_120 rfl ?_
          refine r_icmp_ne C 65 dX6_joinWhoIsThere_37 (by decide)  (fun h5 => ?_) (fun h5 => ?_)
          · have hF := if_f h5 hF
            obtain ⟨x4, ex4, hF⟩ := nam_e hF
            refine r_iinc (v := x4) (ls2 := [(2, vI x4), (3, vR (10, q0, (v2.toNatClampNeg))), (0, vR (7, q0, 0)), (1, vR (10, q1, i1))]) C 3 dX6_joinWhoIsThere_65 rfl ex4.symm (by decide) rfl ?_
            refine r_goto C 2 dX6_joinWhoIsThere_68 (by decide) ?_
            refine r_drop (ls2 := [(0, vR (7, q0, 0)), (1, vR (10, q1, i1)), (2, vI x4)]) [2, 3, 0] rfl ?_
            exact ih _ _ hF
          · have hF := if_t h5 hF
            refine r_drop (ls2 := [(0, vR (7, q0, 0)), (1, vR (10, q1, i1)), (2, vI v2), (3, vR (10, q0, (v2.toNatClampNeg)))]) [1, 2, 3, 0] rfl ?_
            exact hkx40 _ _ _ _ hF
set_option maxRecDepth 20000 in
set_option maxHeartbeats 4000000 in
theorem s_X6_joinWhoIsThere (G : Gx) (l : Launch) {q0 : Nat} {q1 : Nat} {i1 : Nat} {σ σ' : St}  (hF : F_X6_joinWhoIsThere q0 q1 i1 σ = some ((), σ')) : Sp G l yX6_joinWhoIsThere cX6_joinWhoIsThere 4 none (lvl 1) [vR (7, q0, 0), vR (10, q1, i1)] σ (va_Qv (fun b => b = σ') (Wd G) (AG G)) := by
  refine Sp_of (own := RX6) (by decide) rfl (Nat.le_of_ble_eq_true rfl) ?_
  intro p e s m args below meth c C
  show Rt G p l e (lvl 1) s m args below meth c 0 0 (MQ below (va_Qv (fun b => b = σ') (Wd G) (AG G)) args s 0 0 (AG G)) 4 0 [(0, vR (7, q0, 0)), (1, vR (10, q1, i1))] [] σ
  unfold F_X6_joinWhoIsThere at hF
  refine r_iconst (v := (0 : Int32)) C dX6_joinWhoIsThere_0 rfl ?_
  refine r_istore_n (ls2 := [(2, vI (0 : Int32)), (0, vR (7, q0, 0)), (1, vR (10, q1, i1))]) C dX6_joinWhoIsThere_1 2 rfl (by decide) rfl ?_
  refine r_drop (ls2 := [(0, vR (7, q0, 0)), (1, vR (10, q1, i1)), (2, vI (0 : Int32))]) [1, 2, 0] rfl ?_
  refine l_X6_joinWhoIsThere_2 C q0 q1 i1 _ ?_ _ _ _ hF
  · intro y10 y11q y11i σ9 hF
    refine r_aload_n C 3 3 dX6_joinWhoIsThere_40 rfl rfl ?_
    refine r_dup_r C dX6_joinWhoIsThere_41 ?_
    refine r_getI (kf := 1) C dX6_joinWhoIsThere_42 rfl rfl f_X0 (by decide) t_1_123 rfl ?_
    refine r_aload_n C 1 1 dX6_joinWhoIsThere_45 rfl rfl ?_
    refine r_getI (kf := 1) C dX6_joinWhoIsThere_46 rfl rfl f_X0 (by decide) t_1_123 rfl ?_
    refine r_iadd C dX6_joinWhoIsThere_49 ?_
    obtain ⟨σ12, eσ12, hF⟩ := nam_e hF
    refine r_put (kf := 1) (ty0 := tyX0) C dX6_joinWhoIsThere_50 rfl rfl f_X0 tyX0_ok nmX0 (by decide) t_1_123 rfl rfl rfl rfl eσ12 ?_
    refine r_aload_n C 1 1 dX6_joinWhoIsThere_53 rfl rfl ?_
    refine r_iload_n C 2 2 dX6_joinWhoIsThere_54 rfl rfl ?_
    obtain ⟨σ13, eσ13, hF⟩ := nam_e hF
    refine r_put (kf := 5) (ty0 := tyX0) C dX6_joinWhoIsThere_55 rfl rfl f_X0 tyX0_ok nmX0 (by decide) t_1_138 rfl rfl rfl rfl eσ13 ?_
    refine r_aload_n C 0 0 dX6_joinWhoIsThere_58 rfl rfl ?_
    refine r_aload_n C 1 1 dX6_joinWhoIsThere_59 rfl rfl ?_
    refine r_iconst (v := (4 : Int32)) C dX6_joinWhoIsThere_60 rfl ?_
    obtain ⟨⟨⟩, σ14, e15, hF⟩ := bd_e hF
    refine r_callV_v (as := [vR (10, q1, i1), vI (4 : Int32)]) (st := []) C dX6_joinWhoIsThere_61 (s_X6_leave G l e15) rfl rfl rfl t_3_196 t_3_198 t_s_12 t_1_5 t_3_199 m_X6_leave ⟨Nat.le_of_ble_eq_true rfl, Nat.le_of_ble_eq_true rfl⟩ ⟨rfl, rfl⟩ ⟨Nat.zero_le _, Nat.zero_le _⟩ rfl (Nat.le_of_ble_eq_true rfl) ?_
    exact r_return C dX6_joinWhoIsThere_64 (rv_e hF)
