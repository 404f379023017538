def L_X10_cools_37 (c2 : Int32) (c3 : Int32) : Nat → Int32 → Int32 → Int32 → Int32 → St → (Int32 → Int32 → St → Option (Int32 × St)) → Option (Int32 × St)
  | 0, _, _, _, _, _, _ => none
  | n + 1, v4, v5, v6, v7, τ, kx99 =>
  (if (99 : Int32) < v7 then kx99 v5 v6 τ else (if v4 ≤ c2 then kx99 v5 v6 τ else bd (F_X5_floatsAt 0 v4 (0 : Int32) τ) fun r11 σ10 => nam (fun (y13 : Int32) (y14 : Int32) (σ16 : St) => nam (v5 + (1 : Int32)) fun x17 => nam (v7 + (1 : Int32)) fun x18 => L_X10_cools_37 c2 c3 n y13 x17 y14 x18 σ16 kx99) fun k15 => (if r11 = 0 then bd (F_X5_lossTouching 0 v4 σ10) fun r20 σ19 => nam (if (0 : Int32) < (v4 - r20) then (v4 - r20) else (0 : Int32)) fun x22 => k15 x22 v6 σ19 else nam (v6 + (1 : Int32)) fun x23 => nam (v4 + (-1 : Int32)) fun x24 => k15 x24 x23 σ10)))
def F_X10_cools (a1 : Int32) (a2 : Int32) (a3 : Int32) (σ : St) : Option (Int32 × St) :=
  bd (F_X10_isHeat a1 σ) fun r2 σ1 => (if r2 = 0 then some ((-1 : Int32), σ1) else bd (F_X10_isHeat a2 σ1) fun r5 σ4 => (if r5 = 0 then some ((-1 : Int32), σ4) else bd (F_X10_within a3 (0 : Int32) (1 : Int32) σ4) fun r8 σ7 => (if r8 = 0 then some ((-1 : Int32), σ7) else L_X10_cools_37 a2 a3 FU a1 (0 : Int32) (0 : Int32) (0 : Int32) σ7 (fun (y29 : Int32) (y30 : Int32) (σ28 : St) => (if a3 = 0 then some (y29, σ28) else some (y30, σ28))))))
set_option maxRecDepth 20000 in
set_option maxHeartbeats 4000000 in
theorem l_X10_cools_37 {G : Gx} {p : Program} {l : Launch} {e : Env} {s : State} {m : MethodId} {args : Array Value} {below : List Frame} {meth : Method} {c : Code} (C : Cx G p s m args meth c (some .int) 8 RX10 cX10_cools) (c2 : Int32) (c3 : Int32) {σ' : St} {r : Int32} (kx99 : Int32 → Int32 → St → Option (Int32 × St)) (hkx99 : ∀ (w5 : Int32) (w6 : Int32) (τ : St), kx99 w5 w6 τ = some (r, σ') → Rt G p l e (lvl 2) s m args below meth c 0 0 (MQ below (va_Qi (fun a b => a = r ∧ b = σ') (Wd G) (AG G)) args s 0 0 (AG G)) 8 99 [(3, vI c3), (5, vI w5), (6, vI w6)] [] τ) : ∀ (n : Nat) (v4 : Int32) (v5 : Int32) (v6 : Int32) (v7 : Int32) (τ : St), L_X10_cools_37 c2 c3 n v4 v5 v6 v7 τ kx99 = some (r, σ') → Rt G p l e (lvl 2) s m args below meth c 0 0 (MQ below (va_Qi (fun a b => a = r ∧ b = σ') (Wd G) (AG G)) args s 0 0 (AG G)) 8 37 [(0, vR (0, 0, 0)), (2, vI c2), (3, vI c3), (4, vI v4), (5, vI v5), (6, vI v6), (7, vI v7)] [] τ := by
  intro n
  induction n with
  | zero => intro v4 v5 v6 v7 τ hF; cases hF
  | succ n ih =>
    intro v4 v5 v6 v7 τ hF
    unfold L_X10_cools_37 at hF
    refine r_iload C 6 dX10_cools_37 rfl ?_
    refine r_bipush (v := (99 : Int32)) C dX10_cools_39 rfl ?_
    refine r_icmp_gt C 99 dX10_cools_41 (by decide)  (fun h27 => ?_) (fun h27 => ?_)
    · have hF := if_t h27 hF
      refine r_drop (ls2 := [(3, vI c3), (5, vI v5), (6, vI v6)]) [2, 4, 5] rfl ?_
      exact hkx99 _ _ _ hF
    · have hF := if_f h27 hF
      refine r_iload C 3 dX10_cools_44 rfl ?_
      refine r_iload_n C 1 2 dX10_cools_46 rfl rfl ?_
      refine r_icmp_le C 99 dX10_cools_47 (by decide)  (fun h26 => ?_) (fun h26 => ?_)
      · have hF := if_t h26 hF
        refine r_drop (ls2 := [(3, vI c3), (5, vI v5), (6, vI v6)]) [2, 4, 5] rfl ?_
        exact hkx99 _ _ _ hF
      · have hF := if_f h26 hF
        refine r_aload_n C 0 0 dX10_cools_50 rfl rfl ?_
        refine r_getR (kf := 4) (d2 := (3, 0, 0)) C dX10_cools_51 rfl rfl f_X10 (by decide) t_2_99 rfl rfl ?_
        refine r_iload C 3 dX10_cools_54 rfl ?_
        refine r_iconst (v := (0 : Int32)) C dX10_cools_56 rfl ?_
        obtain ⟨r11, σ10, e12, hF⟩ := bd_e hF
        refine r_callV_i (as := [vI v4, vI (0 : Int32)]) (st := []) C dX10_cools_57 (s_X5_floatsAt G l e12) rfl rfl rfl t_3_142 t_3_143 t_3_144 t_1_3 t_3_145 m_X5_floatsAt ⟨Nat.le_of_ble_eq_true rfl, Nat.le_of_ble_eq_true rfl⟩ ⟨rfl, rfl⟩ ⟨Nat.zero_le _, Nat.zero_le _⟩ rfl (Nat.le_of_ble_eq_true rfl) ?_
        obtain ⟨k15, ek15, hF⟩ := nam_e hF
        have hk15 : ∀ (y13 : Int32) (y14 : Int32) (σ16 : St), k15 y13 y14 σ16 = some (r, σ') → Rt G p l e (lvl 2) s m args below meth c 0 0 (MQ below (va_Qi (fun a b => a = r ∧ b = σ') (Wd G) (AG G)) args s 0 0 (AG G)) 8 90 [(0, vR (0, 0, 0)), (2, vI c2), (3, vI c3), (4, vI y13), (5, vI v5), (6, vI y14), (7, vI v7)] [] σ16 := by
          intro y13 y14 σ16 hF
          subst ek15
          obtain ⟨x17, ex17, hF⟩ := nam_e hF
          refine r_iinc (v := x17) (ls2 := [(5, vI x17), (0, vR (0, 0, 0)), (2, vI c2), (3, vI c3), (4, vI y13), (6, vI y14), (7, vI v7)]) C 4 dX10_cools_90 rfl ex17.symm (by decide) rfl ?_
          obtain ⟨x18, ex18, hF⟩ := nam_e hF
          refine r_iinc (v := x18) (ls2 := [(7, vI x18), (5, vI x17), (0, vR (0, 0, 0)), (2, vI c2), (3, vI c3), (4, vI y13), (6, vI y14)]) C 6 dX10_cools_93 rfl ex18.symm (by decide) rfl ?_
          refine r_goto C 37 dX10_cools_96 (by decide) ?_
          refine r_drop (ls2 := [(0, vR (0, 0, 0)), (2, vI c2), (3, vI c3), (4, vI y13), (5, vI x17), (6, vI y14), (7, vI x18)]) [2, 3, 4, 5, 1, 6, 0] rfl ?_
          exact ih _ _ _ _ _ hF
        refine r_if_eq C 72 dX10_cools_60 (by decide)  (fun h25 => ?_) (fun h25 => ?_)
        · have hF := if_t h25 hF
          refine r_iconst (v := (0 : Int32)) C dX10_cools_72 rfl ?_
          refine r_iload C 3 dX10_cools_73 rfl ?_
          refine r_aload_n C 0 0 dX10_cools_75 rfl rfl ?_
          refine r_getR (kf := 4) (d2 := (3, 0, 0)) C dX10_cools_76 rfl rfl f_X10 (by decide) t_2_99 rfl rfl ?_
          refine r_iload C 3 dX10_cools_79 rfl ?_
          obtain ⟨r20, σ19, e21, hF⟩ := bd_e hF
          refine r_callV_i (as := [vI v4]) (st := [vI v4, vI (0 : Int32)]) C dX10_cools_81 (s_X5_lossTouching G l e21) rfl rfl rfl t_4_193 t_3_189 t_3_190 t_1_3 t_3_191 m_X5_lossTouching ⟨Nat.le_of_ble_eq_true rfl, Nat.le_of_ble_eq_true rfl⟩ ⟨rfl, rfl⟩ ⟨Nat.zero_le _, Nat.zero_le _⟩ rfl (Nat.le_of_ble_eq_true rfl) ?_
          refine r_isub C dX10_cools_84 ?_
          refine r_max C dX10_cools_85 t_4_194 t_3_16 t_1_15 t_3_17 ⟨Nat.le_of_ble_eq_true rfl, Nat.le_of_ble_eq_true rfl⟩ ⟨Nat.zero_le _, Nat.zero_le _⟩ ?_
          obtain ⟨x22, ex22, hF⟩ := nam_e hF
          refine r_topI ex22 ?_
          refine r_istore (ls2 := [(4, vI x22), (0, vR (0, 0, 0)), (2, vI c2), (3, vI c3), (5, vI v5), (6, vI v6), (7, vI v7)]) C dX10_cools_88 (by decide) rfl ?_
          refine r_drop (ls2 := [(0, vR (0, 0, 0)), (2, vI c2), (3, vI c3), (4, vI x22), (5, vI v5), (6, vI v6), (7, vI v7)]) [1, 2, 3, 0, 4, 5, 6] rfl ?_
          exact hk15 _ _ _ hF
        · have hF := if_f h25 hF
          obtain ⟨x23, ex23, hF⟩ := nam_e hF
          refine r_iinc (v := x23) (ls2 := [(6, vI x23), (0, vR (0, 0, 0)), (2, vI c2), (3, vI c3), (4, vI v4), (5, vI v5), (7, vI v7)]) C 5 dX10_cools_63 rfl ex23.symm (by decide) rfl ?_
          obtain ⟨x24, ex24, hF⟩ := nam_e hF
          refine r_iinc (v := x24) (ls2 := [(4, vI x24), (6, vI x23), (0, vR (0, 0, 0)), (2, vI c2), (3, vI c3), (5, vI v5), (7, vI v7)]) C 4 dX10_cools_66 rfl ex24.symm (by decide) rfl ?_
          refine r_goto C 90 dX10_cools_69 (by decide) ?_
          refine r_drop (ls2 := [(0, vR (0, 0, 0)), (2, vI c2), (3, vI c3), (4, vI x24), (5, vI v5), (6, vI x23), (7, vI v7)]) [2, 3, 4, 0, 5, 1, 6] rfl ?_
          exact hk15 _ _ _ hF
set_option maxRecDepth 20000 in
set_option maxHeartbeats 4000000 in
theorem s_X10_cools (G : Gx) (l : Launch) {a1 : Int32} {a2 : Int32} {a3 : Int32} {σ σ' : St} {r : Int32} (hF : F_X10_cools a1 a2 a3 σ = some (r, σ')) : Sp G l yX10_cools cX10_cools 8 (some .int) (lvl 2) [vR (0, 0, 0), vI a1, vI a2, vI a3] σ (va_Qi (fun a b => a = r ∧ b = σ') (Wd G) (AG G)) := by
  refine Sp_of (own := RX10) (by decide) rfl (Nat.le_of_ble_eq_true rfl) ?_
  intro p e s m args below meth c C
  show Rt G p l e (lvl 2) s m args below meth c 0 0 (MQ below (va_Qi (fun a b => a = r ∧ b = σ') (Wd G) (AG G)) args s 0 0 (AG G)) 8 0 [(0, vR (0, 0, 0)), (1, vI a1), (2, vI a2), (3, vI a3)] [] σ
  unfold F_X10_cools at hF
  refine r_iload_n C 1 1 dX10_cools_0 rfl rfl ?_
  obtain ⟨r2, σ1, e3, hF⟩ := bd_e hF
  refine r_callS_i (as := [vI a1]) (st := []) C dX10_cools_1 (s_X10_isHeat G l e3) t_3_139 t_3_140 t_1_1 t_3_141 m_X10_isHeat ⟨Nat.le_of_ble_eq_true rfl, Nat.le_of_ble_eq_true rfl⟩ ⟨rfl, rfl⟩ ⟨Nat.zero_le _, Nat.zero_le _⟩ rfl (Nat.le_of_ble_eq_true rfl) ?_
  refine r_if_eq C 23 dX10_cools_4 (by decide)  (fun h34 => ?_) (fun h34 => ?_)
  · have hF := if_t h34 hF
    refine r_iconst (v := (-1 : Int32)) C dX10_cools_23 rfl ?_
    exact r_ireturn C dX10_cools_24 (rt_e hF)
  · have hF := if_f h34 hF
    refine r_iload_n C 2 2 dX10_cools_7 rfl rfl ?_
    obtain ⟨r5, σ4, e6, hF⟩ := bd_e hF
    refine r_callS_i (as := [vI a2]) (st := []) C dX10_cools_8 (s_X10_isHeat G l e6) t_3_139 t_3_140 t_1_1 t_3_141 m_X10_isHeat ⟨Nat.le_of_ble_eq_true rfl, Nat.le_of_ble_eq_true rfl⟩ ⟨rfl, rfl⟩ ⟨Nat.zero_le _, Nat.zero_le _⟩ rfl (Nat.le_of_ble_eq_true rfl) ?_
    refine r_if_eq C 23 dX10_cools_11 (by decide)  (fun h33 => ?_) (fun h33 => ?_)
    · have hF := if_t h33 hF
      refine r_iconst (v := (-1 : Int32)) C dX10_cools_23 rfl ?_
      exact r_ireturn C dX10_cools_24 (rt_e hF)
    · have hF := if_f h33 hF
      refine r_iload_n C 3 3 dX10_cools_14 rfl rfl ?_
      refine r_iconst (v := (0 : Int32)) C dX10_cools_15 rfl ?_
      refine r_iconst (v := (1 : Int32)) C dX10_cools_16 rfl ?_
      obtain ⟨r8, σ7, e9, hF⟩ := bd_e hF
      refine r_callS_i (as := [vI a3, vI (0 : Int32), vI (1 : Int32)]) (st := []) C dX10_cools_17 (s_X10_within G l e9) t_2_143 t_2_144 t_1_1 t_2_145 m_X10_within ⟨Nat.le_of_ble_eq_true rfl, Nat.le_of_ble_eq_true rfl⟩ ⟨rfl, rfl⟩ ⟨Nat.zero_le _, Nat.zero_le _⟩ rfl (Nat.le_of_ble_eq_true rfl) ?_
      refine r_if_ne C 25 dX10_cools_20 (by decide)  (fun h32 => ?_) (fun h32 => ?_)
      · have hF := if_f h32 hF
        refine r_iload_n C 1 1 dX10_cools_25 rfl rfl ?_
        refine r_istore (ls2 := [(4, vI a1), (0, vR (0, 0, 0)), (1, vI a1), (2, vI a2), (3, vI a3)]) C dX10_cools_26 (by decide) rfl ?_
        refine r_iconst (v := (0 : Int32)) C dX10_cools_28 rfl ?_
        refine r_istore (ls2 := [(5, vI (0 : Int32)), (4, vI a1), (0, vR (0, 0, 0)), (1, vI a1), (2, vI a2), (3, vI a3)]) C dX10_cools_29 (by decide) rfl ?_
        refine r_iconst (v := (0 : Int32)) C dX10_cools_31 rfl ?_
        refine r_istore (ls2 := [(6, vI (0 : Int32)), (5, vI (0 : Int32)), (4, vI a1), (0, vR (0, 0, 0)), (1, vI a1), (2, vI a2), (3, vI a3)]) C dX10_cools_32 (by decide) rfl ?_
        refine r_iconst (v := (0 : Int32)) C dX10_cools_34 rfl ?_
        refine r_istore (ls2 := [(7, vI (0 : Int32)), (6, vI (0 : Int32)), (5, vI (0 : Int32)), (4, vI a1), (0, vR (0, 0, 0)), (1, vI a1), (2, vI a2), (3, vI a3)]) C dX10_cools_35 (by decide) rfl ?_
        refine r_drop (ls2 := [(0, vR (0, 0, 0)), (2, vI a2), (3, vI a3), (4, vI a1), (5, vI (0 : Int32)), (6, vI (0 : Int32)), (7, vI (0 : Int32))]) [4, 6, 7, 3, 2, 1, 0] rfl ?_
        refine l_X10_cools_37 C a2 a3 _ ?_ _ _ _ _ _ _ hF
        · intro y29 y30 σ28 hF
          refine r_iload_n C 0 3 dX10_cools_99 rfl rfl ?_
          refine r_if_ne C 108 dX10_cools_100 (by decide)  (fun h31 => ?_) (fun h31 => ?_)
          · have hF := if_f h31 hF
            refine r_iload C 2 dX10_cools_108 rfl ?_
            exact r_ireturn C dX10_cools_110 (rt_e hF)
          · have hF := if_t h31 hF
            refine r_iload C 1 dX10_cools_103 rfl ?_
            refine r_goto C 110 dX10_cools_105 (by decide) ?_
            exact r_ireturn C dX10_cools_110 (rt_e hF)
      · have hF := if_t h32 hF
        refine r_iconst (v := (-1 : Int32)) C dX10_cools_23 rfl ?_
        exact r_ireturn C dX10_cools_24 (rt_e hF)
def F_X9_tell (a1 : Int32) (a2 : Int32) (a3 : Int32) (a4 : Int32) (σ : St) : Option (Int32 × St) :=
  (if (σ.1 (20, 0, 0) 4) < (12 : Int32) then ck (inb (σ.1 (20, 0, 0) 4) 12) (nam (uI σ (21, 0, 0) ((σ.1 (20, 0, 0) 4).toNatClampNeg) a1) fun σ2 => ck (inb (σ2.1 (20, 0, 0) 4) 12) (nam (uI σ2 (22, 0, 0) ((σ2.1 (20, 0, 0) 4).toNatClampNeg) a2) fun σ4 => ck (inb (σ4.1 (20, 0, 0) 4) 12) (nam (uI σ4 (24, 0, 0) ((σ4.1 (20, 0, 0) 4).toNatClampNeg) (vp_nar .boolean a3)) fun σ6 => ck (inb (σ6.1 (20, 0, 0) 4) 12) (nam (uI σ6 (23, 0, 0) ((σ6.1 (20, 0, 0) 4).toNatClampNeg) a4) fun σ8 => nam (uI σ8 (20, 0, 0) 4 ((σ8.1 (20, 0, 0) 4) + (1 : Int32))) fun σ9 => some ((1 : Int32), σ9))))) else some ((0 : Int32), σ))
set_option maxRecDepth 20000 in
set_option maxHeartbeats 4000000 in
theorem s_X9_tell (G : Gx) (l : Launch) {a1 : Int32} {a2 : Int32} {a3 : Int32} {a4 : Int32} {σ σ' : St} {r : Int32} (hF : F_X9_tell a1 a2 a3 a4 σ = some (r, σ')) : Sp G l yX9_tell cX9_tell 5 (some .boolean) (lvl 0) [vR (20, 0, 0), vI a1, vI a2, vI a3, vI a4] σ (va_Qi (fun a b => a = r ∧ b = σ') (Wd G) (AG G)) := by
  refine Sp_of (own := RX9) (by decide) rfl (Nat.le_of_ble_eq_true rfl) ?_
  intro p e s m args below meth c C
  show Rt G p l e (lvl 0) s m args below meth c 0 0 (MQ below (va_Qi (fun a b => a = r ∧ b = σ') (Wd G) (AG G)) args s 0 0 (AG G)) 5 0 [(0, vR (20, 0, 0)), (1, vI a1), (2, vI a2), (3, vI a3), (4, vI a4)] [] σ
  unfold F_X9_tell at hF
  refine r_aload_n C 0 0 dX9_tell_0 rfl rfl ?_
  refine r_getI (kf := 4) C dX9_tell_1 rfl rfl f_X9 (by decide) t_2_47 rfl ?_
  refine r_bipush (v := (12 : Int32)) C dX9_tell_4 rfl ?_
  refine r_icmp_lt C 11 dX9_tell_6 (by decide)  (fun h10 => ?_) (fun h10 => ?_)
  · have hF := if_t h10 hF
    refine r_aload_n C 0 0 dX9_tell_11 rfl rfl ?_
    refine r_getR (kf := 0) (d2 := (21, 0, 0)) C dX9_tell_12 rfl rfl f_X9 (by decide) t_2_43 rfl rfl ?_
    refine r_aload_n C 0 0 dX9_tell_15 rfl rfl ?_
    refine r_getI (kf := 4) C dX9_tell_16 rfl rfl f_X9 (by decide) t_2_47 rfl ?_
    refine r_iload_n C 1 1 dX9_tell_19 rfl rfl ?_
    obtain ⟨h1, hF⟩ := ck_e hF
    obtain ⟨σ2, eσ2, hF⟩ := nam_e hF
    refine r_iastore C ((σ.1 (20, 0, 0) 4).toNatClampNeg) dX9_tell_20 rfl h1 rfl eσ2 ?_
    refine r_aload_n C 0 0 dX9_tell_21 rfl rfl ?_
    refine r_getR (kf := 1) (d2 := (22, 0, 0)) C dX9_tell_22 rfl rfl f_X9 (by decide) t_2_44 rfl rfl ?_
    refine r_aload_n C 0 0 dX9_tell_25 rfl rfl ?_
    refine r_getI (kf := 4) C dX9_tell_26 rfl rfl f_X9 (by decide) t_2_47 rfl ?_
    refine r_iload_n C 2 2 dX9_tell_29 rfl rfl ?_
    obtain ⟨h3, hF⟩ := ck_e hF
    obtain ⟨σ4, eσ4, hF⟩ := nam_e hF
    refine r_iastore C ((σ2.1 (20, 0, 0) 4).toNatClampNeg) dX9_tell_30 rfl h3 rfl eσ4 ?_
    refine r_aload_n C 0 0 dX9_tell_31 rfl rfl ?_
    refine r_getR (kf := 3) (d2 := (24, 0, 0)) C dX9_tell_32 rfl rfl f_X9 (by decide) t_2_46 rfl rfl ?_
    refine r_aload_n C 0 0 dX9_tell_35 rfl rfl ?_
    refine r_getI (kf := 4) C dX9_tell_36 rfl rfl f_X9 (by decide) t_2_47 rfl ?_
    refine r_iload_n C 3 3 dX9_tell_39 rfl rfl ?_
    obtain ⟨h5, hF⟩ := ck_e hF
    obtain ⟨σ6, eσ6, hF⟩ := nam_e hF
    refine r_zastore C ((σ4.1 (20, 0, 0) 4).toNatClampNeg) dX9_tell_40 rfl h5 rfl eσ6 ?_
    refine r_aload_n C 0 0 dX9_tell_41 rfl rfl ?_
    refine r_getR (kf := 2) (d2 := (23, 0, 0)) C dX9_tell_42 rfl rfl f_X9 (by decide) t_2_45 rfl rfl ?_
    refine r_aload_n C 0 0 dX9_tell_45 rfl rfl ?_
    refine r_getI (kf := 4) C dX9_tell_46 rfl rfl f_X9 (by decide) t_2_47 rfl ?_
    refine r_iload C 4 dX9_tell_49 rfl ?_
    obtain ⟨h7, hF⟩ := ck_e hF
    obtain ⟨σ8, eσ8, hF⟩ := nam_e hF
    refine r_iastore C ((σ6.1 (20, 0, 0) 4).toNatClampNeg) dX9_tell_51 rfl h7 rfl eσ8 ?_
    refine r_aload_n C 0 0 dX9_tell_52 rfl rfl ?_
    refine r_dup_r C dX9_tell_53 ?_
    refine r_getI (kf := 4) C dX9_tell_54 rfl rfl f_X9 (by decide) t_2_47 rfl ?_
    refine r_iconst (v := (1 : Int32)) C dX9_tell_57 rfl ?_
    refine r_iadd C dX9_tell_58 ?_
    obtain ⟨σ9, eσ9, hF⟩ := nam_e hF
    refine r_put (kf := 4) (ty0 := tyX9) C dX9_tell_59 rfl rfl f_X9 tyX9_ok nmX9 (by decide) t_2_47 rfl rfl rfl rfl eσ9 ?_
    refine r_iconst (v := (1 : Int32)) C dX9_tell_62 rfl ?_
    exact r_zreturn C dX9_tell_63 (nar_z (Or.inr rfl)) (rt_e hF)
  · have hF := if_f h10 hF
    refine r_iconst (v := (0 : Int32)) C dX9_tell_9 rfl ?_
    exact r_zreturn C dX9_tell_10 (nar_z (Or.inl rfl)) (rt_e hF)
def F_X10_saw (a1 : Int32) (a2 : Int32) (a3 : Int32) (a4 : Int32) (σ : St) : Option (Int32 × St) :=
  bd (F_X10_isSize a1 σ) fun r2 σ1 => (if r2 = 0 then some ((-1 : Int32), σ1) else bd (F_X10_isHeat a2 σ1) fun r5 σ4 => (if r5 = 0 then some ((-1 : Int32), σ4) else bd (F_X10_within a4 (0 : Int32) (999 : Int32) σ4) fun r8 σ7 => (if r8 = 0 then some ((-1 : Int32), σ7) else bd (F_X9_tell a1 a2 a3 a4 σ7) fun r11 σ10 => (if r11 = 0 then some ((-3 : Int32), σ10) else some (σ10.1 (20, 0, 0) 4, σ10)))))
set_option maxRecDepth 20000 in
set_option maxHeartbeats 4000000 in
theorem s_X10_saw (G : Gx) (l : Launch) {a1 : Int32} {a2 : Int32} {a3 : Int32} {a4 : Int32} {σ σ' : St} {r : Int32} (hF : F_X10_saw a1 a2 a3 a4 σ = some (r, σ')) : Sp G l yX10_saw cX10_saw 5 (some .int) (lvl 2) [vR (0, 0, 0), vI a1, vI a2, vI a3, vI a4] σ (va_Qi (fun a b => a = r ∧ b = σ') (Wd G) (AG G)) := by
  refine Sp_of (own := RX10) (by decide) rfl (Nat.le_of_ble_eq_true rfl) ?_
  intro p e s m args below meth c C
  show Rt G p l e (lvl 2) s m args below meth c 0 0 (MQ below (va_Qi (fun a b => a = r ∧ b = σ') (Wd G) (AG G)) args s 0 0 (AG G)) 5 0 [(0, vR (0, 0, 0)), (1, vI a1), (2, vI a2), (3, vI a3), (4, vI a4)] [] σ
  unfold F_X10_saw at hF
  refine r_iload_n C 1 1 dX10_saw_0 rfl rfl ?_
  obtain ⟨r2, σ1, e3, hF⟩ := bd_e hF
  refine r_callS_i (as := [vI a1]) (st := []) C dX10_saw_1 (s_X10_isSize G l e3) t_3_157 t_3_158 t_1_1 t_3_159 m_X10_isSize ⟨Nat.le_of_ble_eq_true rfl, Nat.le_of_ble_eq_true rfl⟩ ⟨rfl, rfl⟩ ⟨Nat.zero_le _, Nat.zero_le _⟩ rfl (Nat.le_of_ble_eq_true rfl) ?_
  refine r_if_eq C 26 dX10_saw_4 (by decide)  (fun h16 => ?_) (fun h16 => ?_)
  · have hF := if_t h16 hF
    refine r_iconst (v := (-1 : Int32)) C dX10_saw_26 rfl ?_
    exact r_ireturn C dX10_saw_27 (rt_e hF)
  · have hF := if_f h16 hF
    refine r_iload_n C 2 2 dX10_saw_7 rfl rfl ?_
    obtain ⟨r5, σ4, e6, hF⟩ := bd_e hF
    refine r_callS_i (as := [vI a2]) (st := []) C dX10_saw_8 (s_X10_isHeat G l e6) t_3_139 t_3_140 t_1_1 t_3_141 m_X10_isHeat ⟨Nat.le_of_ble_eq_true rfl, Nat.le_of_ble_eq_true rfl⟩ ⟨rfl, rfl⟩ ⟨Nat.zero_le _, Nat.zero_le _⟩ rfl (Nat.le_of_ble_eq_true rfl) ?_
    refine r_if_eq C 26 dX10_saw_11 (by decide)  (fun h15 => ?_) (fun h15 => ?_)
    · have hF := if_t h15 hF
      refine r_iconst (v := (-1 : Int32)) C dX10_saw_26 rfl ?_
      exact r_ireturn C dX10_saw_27 (rt_e hF)
    · have hF := if_f h15 hF
      refine r_iload C 4 dX10_saw_14 rfl ?_
      refine r_iconst (v := (0 : Int32)) C dX10_saw_16 rfl ?_
      refine r_sipush (v := (999 : Int32)) C dX10_saw_17 rfl ?_
      obtain ⟨r8, σ7, e9, hF⟩ := bd_e hF
      refine r_callS_i (as := [vI a4, vI (0 : Int32), vI (999 : Int32)]) (st := []) C dX10_saw_20 (s_X10_within G l e9) t_2_143 t_2_144 t_1_1 t_2_145 m_X10_within ⟨Nat.le_of_ble_eq_true rfl, Nat.le_of_ble_eq_true rfl⟩ ⟨rfl, rfl⟩ ⟨Nat.zero_le _, Nat.zero_le _⟩ rfl (Nat.le_of_ble_eq_true rfl) ?_
      refine r_if_ne C 28 dX10_saw_23 (by decide)  (fun h14 => ?_) (fun h14 => ?_)
      · have hF := if_f h14 hF
        refine r_aload_n C 0 0 dX10_saw_28 rfl rfl ?_
        refine r_getR (kf := 10) (d2 := (20, 0, 0)) C dX10_saw_29 rfl rfl f_X10 (by decide) t_2_105 rfl rfl ?_
        refine r_iload_n C 1 1 dX10_saw_32 rfl rfl ?_
        refine r_iload_n C 2 2 dX10_saw_33 rfl rfl ?_
        refine r_iload_n C 3 3 dX10_saw_34 rfl rfl ?_
        refine r_iload C 4 dX10_saw_35 rfl ?_
        obtain ⟨r11, σ10, e12, hF⟩ := bd_e hF
        refine r_callV_i (as := [vI a1, vI a2, vI a3, vI a4]) (st := []) C dX10_saw_37 (s_X9_tell G l e12) rfl rfl rfl t_4_199 t_4_200 t_4_201 t_1_11 t_4_202 m_X9_tell ⟨Nat.le_of_ble_eq_true rfl, Nat.le_of_ble_eq_true rfl⟩ ⟨rfl, rfl⟩ ⟨Nat.zero_le _, Nat.zero_le _⟩ rfl (Nat.le_of_ble_eq_true rfl) ?_
        refine r_if_eq C 53 dX10_saw_40 (by decide)  (fun h13 => ?_) (fun h13 => ?_)
        · have hF := if_t h13 hF
          refine r_bipush (v := (-3 : Int32)) C dX10_saw_53 rfl ?_
          exact r_ireturn C dX10_saw_55 (rt_e hF)
        · have hF := if_f h13 hF
          refine r_aload_n C 0 0 dX10_saw_43 rfl rfl ?_
          refine r_getR (kf := 10) (d2 := (20, 0, 0)) C dX10_saw_44 rfl rfl f_X10 (by decide) t_2_105 rfl rfl ?_
          refine r_getI (kf := 4) C dX10_saw_47 rfl rfl f_X9 (by decide) t_2_48 rfl ?_
          refine r_goto C 55 dX10_saw_50 (by decide) ?_
          exact r_ireturn C dX10_saw_55 (rt_e hF)
      · have hF := if_t h14 hF
        refine r_iconst (v := (-1 : Int32)) C dX10_saw_26 rfl ?_
        exact r_ireturn C dX10_saw_27 (rt_e hF)
def F_X10_forget  (σ : St) : Option (Int32 × St) :=
  nam (σ.1 (20, 0, 0) 4) fun x1 => nam (uI σ (20, 0, 0) 4 (0 : Int32)) fun σ2 => some (x1, σ2)
set_option maxRecDepth 20000 in
set_option maxHeartbeats 4000000 in
theorem s_X10_forget (G : Gx) (l : Launch)  {σ σ' : St} {r : Int32} (hF : F_X10_forget  σ = some (r, σ')) : Sp G l yX10_forget cX10_forget 2 (some .int) (lvl 0) [vR (0, 0, 0)] σ (va_Qi (fun a b => a = r ∧ b = σ') (Wd G) (AG G)) := by
  refine Sp_of (own := RX10) (by decide) rfl (Nat.le_of_ble_eq_true rfl) ?_
  intro p e s m args below meth c C
  show Rt G p l e (lvl 0) s m args below meth c 0 0 (MQ below (va_Qi (fun a b => a = r ∧ b = σ') (Wd G) (AG G)) args s 0 0 (AG G)) 2 0 [(0, vR (0, 0, 0))] [] σ
  unfold F_X10_forget at hF
  refine r_aload_n C 0 0 dX10_forget_0 rfl rfl ?_
  refine r_getR (kf := 10) (d2 := (20, 0, 0)) C dX10_forget_1 rfl rfl f_X10 (by decide) t_2_105 rfl rfl ?_
  refine r_getI (kf := 4) C dX10_forget_4 rfl rfl f_X9 (by decide) t_2_48 rfl ?_
  obtain ⟨x1, ex1, hF⟩ := nam_e hF
  refine r_topI ex1 ?_
  refine r_istore_n (ls2 := [(1, vI x1), (0, vR (0, 0, 0))]) C dX10_forget_7 1 rfl (by decide) rfl ?_
  refine r_aload_n C 1 0 dX10_forget_8 rfl rfl ?_
  refine r_getR (kf := 10) (d2 := (20, 0, 0)) C dX10_forget_9 rfl rfl f_X10 (by decide) t_2_105 rfl rfl ?_
  refine r_iconst (v := (0 : Int32)) C dX10_forget_12 rfl ?_
  obtain ⟨σ2, eσ2, hF⟩ := nam_e hF
  refine r_put (kf := 4) (ty0 := tyX9) C dX10_forget_13 rfl rfl f_X9 tyX9_ok nmX9 (by decide) t_2_48 rfl rfl rfl rfl eσ2 ?_
  refine r_iload_n C 0 1 dX10_forget_16 rfl rfl ?_
  exact r_ireturn C dX10_forget_17 (rt_e hF)
def F_X9_isSo (a1 : Int32) (q2 : Nat) (a3 : Int32) (σ : St) : Option (Int32 × St) :=
  (if a1 < 0 then some ((0 : Int32), σ) else (if a1 < (σ.1 (20, 0, 0) 4) then ck (inb a1 12) (ck (inb a1 12) (nam (fun (y3 : Int32) (σ5 : St) => nam (fun (y6 : Int32) (σ8 : St) => ck (inb a1 12) (ck (inb a1 12) (bd (F_X5_lifeBy q2 (σ8.1 (21, 0, 0) (a1.toNatClampNeg)) (σ8.1 (22, 0, 0) (a1.toNatClampNeg)) y6 σ8) fun r12 σ11 => ck (inb a1 12) ((if r12 = (σ11.1 (23, 0, 0) (a1.toNatClampNeg)) then some ((1 : Int32), σ11) else some ((0 : Int32), σ11)))))) fun k7 => (if (σ.1 (22, 0, 0) (a1.toNatClampNeg)) < y3 then k7 (0 : Int32) σ5 else k7 (1 : Int32) σ5)) fun k4 => (if (σ.1 (24, 0, 0) (a1.toNatClampNeg)) = 0 then bd (F_X5_value q2 (1 : Int32) σ) fun r18 σ17 => k4 r18 σ17 else k4 a3 σ))) else some ((0 : Int32), σ)))
set_option maxRecDepth 20000 in
set_option maxHeartbeats 4000000 in
theorem s_X9_isSo (G : Gx) (l : Launch) {a1 : Int32} {q2 : Nat} {a3 : Int32} {σ σ' : St} {r : Int32} (hF : F_X9_isSo a1 q2 a3 σ = some (r, σ')) : Sp G l yX9_isSo cX9_isSo 5 (some .boolean) (lvl 4) [vR (20, 0, 0), vI a1, vR (3, q2, 0), vI a3] σ (va_Qi (fun a b => a = r ∧ b = σ') (Wd G) (AG G)) := by
  refine Sp_of (own := RX9) (by decide) rfl (Nat.le_of_ble_eq_true rfl) ?_
  intro p e s m args below meth c C
  show Rt G p l e (lvl 4) s m args below meth c 0 0 (MQ below (va_Qi (fun a b => a = r ∧ b = σ') (Wd G) (AG G)) args s 0 0 (AG G)) 5 0 [(0, vR (20, 0, 0)), (1, vI a1), (2, vR (3, q2, 0)), (3, vI a3)] [] σ
  unfold F_X9_isSo at hF
  refine r_iload_n C 1 1 dX9_isSo_0 rfl rfl ?_
  refine r_if_lt C 12 dX9_isSo_1 (by decide)  (fun h22 => ?_) (fun h22 => ?_)
  · have hF := if_t h22 hF
    refine r_iconst (v := (0 : Int32)) C dX9_isSo_12 rfl ?_
    exact r_zreturn C dX9_isSo_13 (nar_z (Or.inl rfl)) (rt_e hF)
  · have hF := if_f h22 hF
    refine r_iload_n C 1 1 dX9_isSo_4 rfl rfl ?_
    refine r_aload_n C 0 0 dX9_isSo_5 rfl rfl ?_
    refine r_getI (kf := 4) C dX9_isSo_6 rfl rfl f_X9 (by decide) t_2_47 rfl ?_
    refine r_icmp_lt C 14 dX9_isSo_9 (by decide)  (fun h21 => ?_) (fun h21 => ?_)
    · have hF := if_t h21 hF
      refine r_aload_n C 0 0 dX9_isSo_14 rfl rfl ?_
      refine r_getR (kf := 1) (d2 := (22, 0, 0)) C dX9_isSo_15 rfl rfl f_X9 (by decide) t_2_44 rfl rfl ?_
      refine r_iload_n C 1 1 dX9_isSo_18 rfl rfl ?_
      obtain ⟨h1, hF⟩ := ck_e hF
      refine r_iaload C (a1.toNatClampNeg) dX9_isSo_19 rfl h1 rfl ?_
      refine r_aload_n C 0 0 dX9_isSo_20 rfl rfl ?_
      refine r_getR (kf := 3) (d2 := (24, 0, 0)) C dX9_isSo_21 rfl rfl f_X9 (by decide) t_2_46 rfl rfl ?_
      refine r_iload_n C 1 1 dX9_isSo_24 rfl rfl ?_
      obtain ⟨h2, hF⟩ := ck_e hF
      refine r_zaload C (a1.toNatClampNeg) dX9_isSo_25 rfl h2 rfl ?_
      obtain ⟨k4, ek4, hF⟩ := nam_e hF
      have hk4 : ∀ (y3 : Int32) (σ5 : St), k4 y3 σ5 = some (r, σ') → Rt G p l e (lvl 4) s m args below meth c 0 0 (MQ below (va_Qi (fun a b => a = r ∧ b = σ') (Wd G) (AG G)) args s 0 0 (AG G)) 5 38 [(0, vR (20, 0, 0)), (1, vI a1), (2, vR (3, q2, 0))] [vI y3, vI (σ.1 (22, 0, 0) (a1.toNatClampNeg))] σ5 := by
        intro y3 σ5 hF
        subst ek4
        obtain ⟨k7, ek7, hF⟩ := nam_e hF
        have hk7 : ∀ (y6 : Int32) (σ8 : St), k7 y6 σ8 = some (r, σ') → Rt G p l e (lvl 4) s m args below meth c 0 0 (MQ below (va_Qi (fun a b => a = r ∧ b = σ') (Wd G) (AG G)) args s 0 0 (AG G)) 5 46 [(0, vR (20, 0, 0)), (1, vI a1), (2, vR (3, q2, 0))] [vI y6] σ8 := by
          intro y6 σ8 hF
          subst ek7
          refine r_istore (ls2 := [(4, vI y6), (0, vR (20, 0, 0)), (1, vI a1), (2, vR (3, q2, 0))]) C dX9_isSo_46 (by decide) rfl ?_
          refine r_aload_n C 3 2 dX9_isSo_48 rfl rfl ?_
          refine r_aload_n C 1 0 dX9_isSo_49 rfl rfl ?_
          refine r_getR (kf := 0) (d2 := (21, 0, 0)) C dX9_isSo_50 rfl rfl f_X9 (by decide) t_2_43 rfl rfl ?_
          refine r_iload_n C 2 1 dX9_isSo_53 rfl rfl ?_
          obtain ⟨h9, hF⟩ := ck_e hF
          refine r_iaload C (a1.toNatClampNeg) dX9_isSo_54 rfl h9 rfl ?_
          refine r_aload_n C 1 0 dX9_isSo_55 rfl rfl ?_
          refine r_getR (kf := 1) (d2 := (22, 0, 0)) C dX9_isSo_56 rfl rfl f_X9 (by decide) t_2_44 rfl rfl ?_
          refine r_iload_n C 2 1 dX9_isSo_59 rfl rfl ?_
          obtain ⟨h10, hF⟩ := ck_e hF
          refine r_iaload C (a1.toNatClampNeg) dX9_isSo_60 rfl h10 rfl ?_
          refine r_iload C 0 dX9_isSo_61 rfl ?_
          obtain ⟨r12, σ11, e13, hF⟩ := bd_e hF
          refine r_callV_i (as := [vI (σ8.1 (21, 0, 0) (a1.toNatClampNeg)), vI (σ8.1 (22, 0, 0) (a1.toNatClampNeg)), vI y6]) (st := []) C dX9_isSo_63 (s_X5_lifeBy G l e13) rfl rfl rfl t_4_222 t_4_126 t_4_127 t_1_3 t_4_128 m_X5_lifeBy ⟨Nat.le_of_ble_eq_true rfl, Nat.le_of_ble_eq_true rfl⟩ ⟨rfl, rfl⟩ ⟨Nat.zero_le _, Nat.zero_le _⟩ rfl (Nat.le_of_ble_eq_true rfl) ?_
          refine r_aload_n C 1 0 dX9_isSo_66 rfl rfl ?_
          refine r_getR (kf := 2) (d2 := (23, 0, 0)) C dX9_isSo_67 rfl rfl f_X9 (by decide) t_2_45 rfl rfl ?_
          refine r_iload_n C 2 1 dX9_isSo_70 rfl rfl ?_
          obtain ⟨h14, hF⟩ := ck_e hF
          refine r_iaload C (a1.toNatClampNeg) dX9_isSo_71 rfl h14 rfl ?_
          refine r_icmp_ne C 79 dX9_isSo_72 (by decide)  (fun h15 => ?_) (fun h15 => ?_)
          · have hF := if_f h15 hF
            refine r_iconst (v := (0 : Int32)) C dX9_isSo_79 rfl ?_
            exact r_zreturn C dX9_isSo_80 (nar_z (Or.inl rfl)) (rt_e hF)
          · have hF := if_t h15 hF
            refine r_iconst (v := (1 : Int32)) C dX9_isSo_75 rfl ?_
            refine r_goto C 80 dX9_isSo_76 (by decide) ?_
            exact r_zreturn C dX9_isSo_80 (nar_z (Or.inr rfl)) (rt_e hF)
        refine r_icmp_lt C 45 dX9_isSo_38 (by decide)  (fun h16 => ?_) (fun h16 => ?_)
        · have hF := if_t h16 hF
          refine r_iconst (v := (0 : Int32)) C dX9_isSo_45 rfl ?_
          exact hk7 _ _ hF
        · have hF := if_f h16 hF
          refine r_iconst (v := (1 : Int32)) C dX9_isSo_41 rfl ?_
          refine r_goto C 46 dX9_isSo_42 (by decide) ?_
          exact hk7 _ _ hF
      refine r_if_eq C 33 dX9_isSo_26 (by decide)  (fun h20 => ?_) (fun h20 => ?_)
      · have hF := if_t h20 hF
        refine r_aload_n C 2 2 dX9_isSo_33 rfl rfl ?_
        refine r_iconst (v := (1 : Int32)) C dX9_isSo_34 rfl ?_
        obtain ⟨r18, σ17, e19, hF⟩ := bd_e hF
        refine r_callV_i (as := [vI (1 : Int32)]) (st := [vI (σ.1 (22, 0, 0) (a1.toNatClampNeg))]) C dX9_isSo_35 (s_X5_value G l e19) rfl rfl rfl t_4_221 t_3_90 t_3_91 t_1_3 t_3_92 m_X5_value ⟨Nat.le_of_ble_eq_true rfl, Nat.le_of_ble_eq_true rfl⟩ ⟨rfl, rfl⟩ ⟨Nat.zero_le _, Nat.zero_le _⟩ rfl (Nat.le_of_ble_eq_true rfl) ?_
        refine r_drop (ls2 := [(0, vR (20, 0, 0)), (1, vI a1), (2, vR (3, q2, 0))]) [0, 1, 2] rfl ?_
        exact hk4 _ _ hF
      · have hF := if_f h20 hF
        refine r_iload_n C 3 3 dX9_isSo_29 rfl rfl ?_
        refine r_goto C 38 dX9_isSo_30 (by decide) ?_
        refine r_drop (ls2 := [(0, vR (20, 0, 0)), (1, vI a1), (2, vR (3, q2, 0))]) [0, 1, 2] rfl ?_
        exact hk4 _ _ hF
    · have hF := if_f h21 hF
      refine r_iconst (v := (0 : Int32)) C dX9_isSo_12 rfl ?_
      exact r_zreturn C dX9_isSo_13 (nar_z (Or.inl rfl)) (rt_e hF)
def L_X9_allSo_2 (q1 : Nat) (c2 : Int32) : Nat → Int32 → St → Option (Int32 × St)
  | 0, _, _ => none
  | n + 1, v3, τ =>
  (if (τ.1 (20, 0, 0) 4) ≤ v3 then some ((1 : Int32), τ) else bd (F_X9_isSo v3 q1 c2 τ) fun r2 σ1 => (if r2 = 0 then some ((0 : Int32), σ1) else nam (v3 + (1 : Int32)) fun x4 => L_X9_allSo_2 q1 c2 n x4 σ1))
def F_X9_allSo (q1 : Nat) (a2 : Int32) (σ : St) : Option (Int32 × St) :=
  L_X9_allSo_2 q1 a2 FU (0 : Int32) σ 
set_option maxRecDepth 20000 in
set_option maxHeartbeats 4000000 in
theorem l_X9_allSo_2 {G : Gx} {p : Program} {l : Launch} {e : Env} {s : State} {m : MethodId} {args : Array Value} {below : List Frame} {meth : Method} {c : Code} (C : Cx G p s m args meth c (some .boolean) 4 RX9 cX9_allSo) (q1 : Nat) (c2 : Int32) {σ' : St} {r : Int32} : ∀ (n : Nat) (v3 : Int32) (τ : St), L_X9_allSo_2 q1 c2 n v3 τ = some (r, σ') → Rt G p l e (lvl 5) s m args below meth c 0 0 (MQ below (va_Qi (fun a b => a = r ∧ b = σ') (Wd G) (AG G)) args s 0 0 (AG G)) 4 2 [(0, vR (20, 0, 0)), (1, vR (3, q1, 0)), (2, vI c2), (3, vI v3)] [] τ := by
  intro n
  induction n with
  | zero => intro v3 τ hF; cases hF
  | succ n ih =>
    intro v3 τ hF
    unfold L_X9_allSo_2 at hF
    refine r_iload_n C 3 3 dX9_allSo_2 rfl rfl ?_
    refine r_aload_n C 0 0 dX9_allSo_3 rfl rfl ?_
    refine r_getI (kf := 4) C dX9_allSo_4 rfl rfl f_X9 (by decide) t_2_47 rfl ?_
    refine r_icmp_ge C 28 dX9_allSo_7 (by decide)  (fun h6 => ?_) (fun h6 => ?_)
    · have hF := if_t h6 hF
      refine r_iconst (v := (1 : Int32)) C dX9_allSo_28 rfl ?_
      exact r_zreturn C dX9_allSo_29 (nar_z (Or.inr rfl)) (rt_e hF)
    · have hF := if_f h6 hF
      refine r_aload_n C 0 0 dX9_allSo_10 rfl rfl ?_
      refine r_iload_n C 3 3 dX9_allSo_11 rfl rfl ?_
      refine r_aload_n C 1 1 dX9_allSo_12 rfl rfl ?_
      refine r_iload_n C 2 2 dX9_allSo_13 rfl rfl ?_
      obtain ⟨r2, σ1, e3, hF⟩ := bd_e hF
      refine r_callV_i (as := [vI v3, vR (3, q1, 0), vI c2]) (st := []) C dX9_allSo_14 (s_X9_isSo G l e3) rfl rfl rfl t_4_217 t_4_218 t_4_219 t_1_11 t_4_220 m_X9_isSo ⟨Nat.le_of_ble_eq_true rfl, Nat.le_of_ble_eq_true rfl⟩ ⟨rfl, rfl⟩ ⟨Nat.zero_le _, Nat.zero_le _⟩ rfl (Nat.le_of_ble_eq_true rfl) ?_
      refine r_if_ne C 22 dX9_allSo_17 (by decide)  (fun h5 => ?_) (fun h5 => ?_)
      · have hF := if_f h5 hF
        obtain ⟨x4, ex4, hF⟩ := nam_e hF
        refine r_iinc (v := x4) (ls2 := [(3, vI x4), (0, vR (20, 0, 0)), (1, vR (3, q1, 0)), (2, vI c2)]) C 3 dX9_allSo_22 rfl ex4.symm (by decide) rfl ?_
        refine r_goto C 2 dX9_allSo_25 (by decide) ?_
        refine r_drop (ls2 := [(0, vR (20, 0, 0)), (1, vR (3, q1, 0)), (2, vI c2), (3, vI x4)]) [1, 2, 3, 0] rfl ?_
        exact ih _ _ hF
      · have hF := if_t h5 hF
        refine r_iconst (v := (0 : Int32)) C dX9_allSo_20 rfl ?_
        exact r_zreturn C dX9_allSo_21 (nar_z (Or.inl rfl)) (rt_e hF)
set_option maxRecDepth 20000 in
set_option maxHeartbeats 4000000 in
theorem s_X9_allSo (G : Gx) (l : Launch) {q1 : Nat} {a2 : Int32} {σ σ' : St} {r : Int32} (hF : F_X9_allSo q1 a2 σ = some (r, σ')) : Sp G l yX9_allSo cX9_allSo 4 (some .boolean) (lvl 5) [vR (20, 0, 0), vR (3, q1, 0), vI a2] σ (va_Qi (fun a b => a = r ∧ b = σ') (Wd G) (AG G)) := by
  refine Sp_of (own := RX9) (by decide) rfl (Nat.le_of_ble_eq_true rfl) ?_
  intro p e s m args below meth c C
  show Rt G p l e (lvl 5) s m args below meth c 0 0 (MQ below (va_Qi (fun a b => a = r ∧ b = σ') (Wd G) (AG G)) args s 0 0 (AG G)) 4 0 [(0, vR (20, 0, 0)), (1, vR (3, q1, 0)), (2, vI a2)] [] σ
  unfold F_X9_allSo at hF
  refine r_iconst (v := (0 : Int32)) C dX9_allSo_0 rfl ?_
  refine r_istore_n (ls2 := [(3, vI (0 : Int32)), (0, vR (20, 0, 0)), (1, vR (3, q1, 0)), (2, vI a2)]) C dX9_allSo_1 3 rfl (by decide) rfl ?_
  refine r_drop (ls2 := [(0, vR (20, 0, 0)), (1, vR (3, q1, 0)), (2, vI a2), (3, vI (0 : Int32))]) [1, 2, 3, 0] rfl ?_
  refine l_X9_allSo_2 C q1 a2  _ _ _ hF
def L_X10_fits_38 (c1 : Int32) : Nat → Int32 → Int32 → Int32 → Int32 → St → (Int32 → Int32 → Int32 → St → Option (Int32 × St)) → Option (Int32 × St)
  | 0, _, _, _, _, _, _ => none
  | n + 1, v2, v3, v4, v5, τ, kx90 =>
  ck (inb (0 : Int32) 9) ((if (roC 101 0) < v5 then kx90 v2 v3 v4 τ else bd (F_X9_allSo 0 v5 τ) fun r11 σ10 => nam (fun (y13 : Int32) (y14 : Int32) (y15 : Int32) (σ17 : St) => nam (v5 + (1 : Int32)) fun x18 => L_X10_fits_38 c1 n y13 y14 y15 x18 σ17 kx90) fun k16 => (if r11 = 0 then k16 v2 v3 v4 σ10 else nam (v2 + (1 : Int32)) fun x19 => nam (fun (y20 : Int32) (σ22 : St) => k16 x19 y20 v5 σ22) fun k21 => (if v3 = (-4 : Int32) then k21 v5 σ10 else k21 v3 σ10))))
def F_X10_fits (a1 : Int32) (σ : St) : Option (Int32 × St) :=
  bd (F_X10_within a1 (0 : Int32) (2 : Int32) σ) fun r2 σ1 => (if r2 = 0 then some ((-1 : Int32), σ1) else ck (inb (0 : Int32) 9) (bd (F_X5_value 0 (1 : Int32) σ1) fun r6 σ5 => nam (if (roC 100 0) < r6 then r6 else (roC 100 0)) fun x8 => L_X10_fits_38 a1 FU (0 : Int32) (-4 : Int32) (-4 : Int32) x8 σ5 (fun (y27 : Int32) (y28 : Int32) (y29 : Int32) (σ26 : St) => (if a1 = 0 then some (y27, σ26) else (if a1 = (1 : Int32) then some (y28, σ26) else some (y29, σ26))))))
set_option maxRecDepth 20000 in
set_option maxHeartbeats 4000000 in
theorem l_X10_fits_38 {G : Gx} {p : Program} {l : Launch} {e : Env} {s : State} {m : MethodId} {args : Array Value} {below : List Frame} {meth : Method} {c : Code} (C : Cx G p s m args meth c (some .int) 6 RX10 cX10_fits) (c1 : Int32) {σ' : St} {r : Int32} (kx90 : Int32 → Int32 → Int32 → St → Option (Int32 × St)) (hkx90 : ∀ (w2 : Int32) (w3 : Int32) (w4 : Int32) (τ : St), kx90 w2 w3 w4 τ = some (r, σ') → Rt G p l e (lvl 6) s m args below meth c 0 0 (MQ below (va_Qi (fun a b => a = r ∧ b = σ') (Wd G) (AG G)) args s 0 0 (AG G)) 6 90 [(1, vI c1), (2, vI w2), (3, vI w3), (4, vI w4)] [] τ) : ∀ (n : Nat) (v2 : Int32) (v3 : Int32) (v4 : Int32) (v5 : Int32) (τ : St), L_X10_fits_38 c1 n v2 v3 v4 v5 τ kx90 = some (r, σ') → Rt G p l e (lvl 6) s m args below meth c 0 0 (MQ below (va_Qi (fun a b => a = r ∧ b = σ') (Wd G) (AG G)) args s 0 0 (AG G)) 6 38 [(0, vR (0, 0, 0)), (1, vI c1), (2, vI v2), (3, vI v3), (4, vI v4), (5, vI v5)] [] τ := by
  intro n
  induction n with
  | zero => intro v2 v3 v4 v5 τ hF; cases hF
  | succ n ih =>
    intro v2 v3 v4 v5 τ hF
    unfold L_X10_fits_38 at hF
    refine r_iload C 5 dX10_fits_38 rfl ?_
    refine r_gets (t := 101) (nm := "RULE_MOST") C dX10_fits_40 (by decide) t_4_212 (by decide) ?_
    refine r_iconst (v := (0 : Int32)) C dX10_fits_43 rfl ?_
    obtain ⟨h9, hF⟩ := ck_e hF
    refine r_roload (v := roC 101 0) C 0 dX10_fits_44 (by decide) h9 rfl rfl ?_
    refine r_icmp_gt C 90 dX10_fits_45 (by decide)  (fun h25 => ?_) (fun h25 => ?_)
    · have hF := if_t h25 hF
      refine r_drop (ls2 := [(1, vI c1), (2, vI v2), (3, vI v3), (4, vI v4)]) [1, 2, 3, 4] rfl ?_
      exact hkx90 _ _ _ _ hF
    · have hF := if_f h25 hF
      refine r_aload_n C 0 0 dX10_fits_48 rfl rfl ?_
      refine r_getR (kf := 10) (d2 := (20, 0, 0)) C dX10_fits_49 rfl rfl f_X10 (by decide) t_2_105 rfl rfl ?_
      refine r_aload_n C 0 0 dX10_fits_52 rfl rfl ?_
      refine r_getR (kf := 4) (d2 := (3, 0, 0)) C dX10_fits_53 rfl rfl f_X10 (by decide) t_2_99 rfl rfl ?_
      refine r_iload C 5 dX10_fits_56 rfl ?_
      obtain ⟨r11, σ10, e12, hF⟩ := bd_e hF
      refine r_callV_i (as := [vR (3, 0, 0), vI v5]) (st := []) C dX10_fits_58 (s_X9_allSo G l e12) rfl rfl rfl t_4_213 t_4_214 t_4_215 t_1_11 t_4_216 m_X9_allSo ⟨Nat.le_of_ble_eq_true rfl, Nat.le_of_ble_eq_true rfl⟩ ⟨rfl, rfl⟩ ⟨Nat.zero_le _, Nat.zero_le _⟩ rfl (Nat.le_of_ble_eq_true rfl) ?_
      obtain ⟨k16, ek16, hF⟩ := nam_e hF
      have hk16 : ∀ (y13 : Int32) (y14 : Int32) (y15 : Int32) (σ17 : St), k16 y13 y14 y15 σ17 = some (r, σ') → Rt G p l e (lvl 6) s m args below meth c 0 0 (MQ below (va_Qi (fun a b => a = r ∧ b = σ') (Wd G) (AG G)) args s 0 0 (AG G)) 6 84 [(0, vR (0, 0, 0)), (1, vI c1), (2, vI y13), (3, vI y14), (4, vI y15), (5, vI v5)] [] σ17 := by
        intro y13 y14 y15 σ17 hF
        subst ek16
        obtain ⟨x18, ex18, hF⟩ := nam_e hF
        refine r_iinc (v := x18) (ls2 := [(5, vI x18), (0, vR (0, 0, 0)), (1, vI c1), (2, vI y13), (3, vI y14), (4, vI y15)]) C 5 dX10_fits_84 rfl ex18.symm (by decide) rfl ?_
        refine r_goto C 38 dX10_fits_87 (by decide) ?_
        refine r_drop (ls2 := [(0, vR (0, 0, 0)), (1, vI c1), (2, vI y13), (3, vI y14), (4, vI y15), (5, vI x18)]) [1, 2, 3, 4, 5, 0] rfl ?_
        exact ih _ _ _ _ _ hF
      refine r_if_eq C 84 dX10_fits_61 (by decide)  (fun h24 => ?_) (fun h24 => ?_)
      · have hF := if_t h24 hF
        exact hk16 _ _ _ _ hF
      · have hF := if_f h24 hF
        obtain ⟨x19, ex19, hF⟩ := nam_e hF
        refine r_iinc (v := x19) (ls2 := [(2, vI x19), (0, vR (0, 0, 0)), (1, vI c1), (3, vI v3), (4, vI v4), (5, vI v5)]) C 2 dX10_fits_64 rfl ex19.symm (by decide) rfl ?_
        refine r_iload_n C 3 3 dX10_fits_67 rfl rfl ?_
        refine r_bipush (v := (-4 : Int32)) C dX10_fits_68 rfl ?_
        obtain ⟨k21, ek21, hF⟩ := nam_e hF
        have hk21 : ∀ (y20 : Int32) (σ22 : St), k21 y20 σ22 = some (r, σ') → Rt G p l e (lvl 6) s m args below meth c 0 0 (MQ below (va_Qi (fun a b => a = r ∧ b = σ') (Wd G) (AG G)) args s 0 0 (AG G)) 6 79 [(0, vR (0, 0, 0)), (1, vI c1), (2, vI x19), (5, vI v5)] [vI y20] σ22 := by
          intro y20 σ22 hF
          subst ek21
          refine r_istore_n (ls2 := [(3, vI y20), (0, vR (0, 0, 0)), (1, vI c1), (2, vI x19), (5, vI v5)]) C dX10_fits_79 3 rfl (by decide) rfl ?_
          refine r_iload C 4 dX10_fits_80 rfl ?_
          refine r_istore (ls2 := [(4, vI v5), (3, vI y20), (0, vR (0, 0, 0)), (1, vI c1), (2, vI x19), (5, vI v5)]) C dX10_fits_82 (by decide) rfl ?_
          refine r_drop (ls2 := [(0, vR (0, 0, 0)), (1, vI c1), (2, vI x19), (3, vI y20), (4, vI v5), (5, vI v5)]) [2, 3, 4, 1, 0, 5] rfl ?_
          exact hk16 _ _ _ _ hF
        refine r_icmp_ne C 78 dX10_fits_70 (by decide)  (fun h23 => ?_) (fun h23 => ?_)
        · have hF := if_f h23 hF
          refine r_iload_n C 3 3 dX10_fits_78 rfl rfl ?_
          refine r_drop (ls2 := [(0, vR (0, 0, 0)), (1, vI c1), (2, vI x19), (5, vI v5)]) [1, 2, 0, 5] rfl ?_
          exact hk21 _ _ hF
        · have hF := if_t h23 hF
          refine r_iload C 5 dX10_fits_73 rfl ?_
          refine r_goto C 79 dX10_fits_75 (by decide) ?_
          refine r_drop (ls2 := [(0, vR (0, 0, 0)), (1, vI c1), (2, vI x19), (5, vI v5)]) [1, 2, 0, 5] rfl ?_
          exact hk21 _ _ hF
set_option maxRecDepth 20000 in
set_option maxHeartbeats 4000000 in
theorem s_X10_fits (G : Gx) (l : Launch) {a1 : Int32} {σ σ' : St} {r : Int32} (hF : F_X10_fits a1 σ = some (r, σ')) : Sp G l yX10_fits cX10_fits 6 (some .int) (lvl 6) [vR (0, 0, 0), vI a1] σ (va_Qi (fun a b => a = r ∧ b = σ') (Wd G) (AG G)) := by
  refine Sp_of (own := RX10) (by decide) rfl (Nat.le_of_ble_eq_true rfl) ?_
  intro p e s m args below meth c C
  show Rt G p l e (lvl 6) s m args below meth c 0 0 (MQ below (va_Qi (fun a b => a = r ∧ b = σ') (Wd G) (AG G)) args s 0 0 (AG G)) 6 0 [(0, vR (0, 0, 0)), (1, vI a1)] [] σ
  unfold F_X10_fits at hF
  refine r_iload_n C 1 1 dX10_fits_0 rfl rfl ?_
  refine r_iconst (v := (0 : Int32)) C dX10_fits_1 rfl ?_
  refine r_iconst (v := (2 : Int32)) C dX10_fits_2 rfl ?_
  obtain ⟨r2, σ1, e3, hF⟩ := bd_e hF
  refine r_callS_i (as := [vI a1, vI (0 : Int32), vI (2 : Int32)]) (st := []) C dX10_fits_3 (s_X10_within G l e3) t_2_143 t_2_144 t_1_1 t_2_145 m_X10_within ⟨Nat.le_of_ble_eq_true rfl, Nat.le_of_ble_eq_true rfl⟩ ⟨rfl, rfl⟩ ⟨Nat.zero_le _, Nat.zero_le _⟩ rfl (Nat.le_of_ble_eq_true rfl) ?_
  refine r_if_ne C 11 dX10_fits_6 (by decide)  (fun h32 => ?_) (fun h32 => ?_)
  · have hF := if_f h32 hF
    refine r_iconst (v := (0 : Int32)) C dX10_fits_11 rfl ?_
    refine r_istore_n (ls2 := [(2, vI (0 : Int32)), (0, vR (0, 0, 0)), (1, vI a1)]) C dX10_fits_12 2 rfl (by decide) rfl ?_
    refine r_bipush (v := (-4 : Int32)) C dX10_fits_13 rfl ?_
    refine r_istore_n (ls2 := [(3, vI (-4 : Int32)), (2, vI (0 : Int32)), (0, vR (0, 0, 0)), (1, vI a1)]) C dX10_fits_15 3 rfl (by decide) rfl ?_
    refine r_bipush (v := (-4 : Int32)) C dX10_fits_16 rfl ?_
    refine r_istore (ls2 := [(4, vI (-4 : Int32)), (3, vI (-4 : Int32)), (2, vI (0 : Int32)), (0, vR (0, 0, 0)), (1, vI a1)]) C dX10_fits_18 (by decide) rfl ?_
    refine r_gets (t := 100) (nm := "RULE_LEAST") C dX10_fits_20 (by decide) t_4_211 (by decide) ?_
    refine r_iconst (v := (0 : Int32)) C dX10_fits_23 rfl ?_
    obtain ⟨h4, hF⟩ := ck_e hF
    refine r_roload (v := roC 100 0) C 0 dX10_fits_24 (by decide) h4 rfl rfl ?_
    refine r_aload_n C 3 0 dX10_fits_25 rfl rfl ?_
    refine r_getR (kf := 4) (d2 := (3, 0, 0)) C dX10_fits_26 rfl rfl f_X10 (by decide) t_2_99 rfl rfl ?_
    refine r_iconst (v := (1 : Int32)) C dX10_fits_29 rfl ?_
    obtain ⟨r6, σ5, e7, hF⟩ := bd_e hF
    refine r_callV_i (as := [vI (1 : Int32)]) (st := [vI (roC 100 0)]) C dX10_fits_30 (s_X5_value G l e7) rfl rfl rfl t_3_115 t_3_90 t_3_91 t_1_3 t_3_92 m_X5_value ⟨Nat.le_of_ble_eq_true rfl, Nat.le_of_ble_eq_true rfl⟩ ⟨rfl, rfl⟩ ⟨Nat.zero_le _, Nat.zero_le _⟩ rfl (Nat.le_of_ble_eq_true rfl) ?_
    refine r_max C dX10_fits_33 t_4_194 t_3_16 t_1_15 t_3_17 ⟨Nat.le_of_ble_eq_true rfl, Nat.le_of_ble_eq_true rfl⟩ ⟨Nat.zero_le _, Nat.zero_le _⟩ ?_
    obtain ⟨x8, ex8, hF⟩ := nam_e hF
    refine r_topI ex8 ?_
    refine r_istore (ls2 := [(5, vI x8), (4, vI (-4 : Int32)), (3, vI (-4 : Int32)), (2, vI (0 : Int32)), (0, vR (0, 0, 0)), (1, vI a1)]) C dX10_fits_36 (by decide) rfl ?_
    refine r_drop (ls2 := [(0, vR (0, 0, 0)), (1, vI a1), (2, vI (0 : Int32)), (3, vI (-4 : Int32)), (4, vI (-4 : Int32)), (5, vI x8)]) [4, 5, 3, 2, 1, 0] rfl ?_
    refine l_X10_fits_38 C a1 _ ?_ _ _ _ _ _ _ hF
    · intro y27 y28 y29 σ26 hF
      refine r_iload_n C 0 1 dX10_fits_90 rfl rfl ?_
      refine r_if_ne C 98 dX10_fits_91 (by decide)  (fun h31 => ?_) (fun h31 => ?_)
      · have hF := if_f h31 hF
        refine r_iload_n C 0 1 dX10_fits_98 rfl rfl ?_
        refine r_iconst (v := (1 : Int32)) C dX10_fits_99 rfl ?_
        refine r_icmp_ne C 107 dX10_fits_100 (by decide)  (fun h30 => ?_) (fun h30 => ?_)
        · have hF := if_f h30 hF
          refine r_iload C 3 dX10_fits_107 rfl ?_
          exact r_ireturn C dX10_fits_109 (rt_e hF)
        · have hF := if_t h30 hF
          refine r_iload_n C 2 3 dX10_fits_103 rfl rfl ?_
          refine r_goto C 109 dX10_fits_104 (by decide) ?_
          exact r_ireturn C dX10_fits_109 (rt_e hF)
      · have hF := if_t h31 hF
        refine r_iload_n C 1 2 dX10_fits_94 rfl rfl ?_
        refine r_goto C 109 dX10_fits_95 (by decide) ?_
        exact r_ireturn C dX10_fits_109 (rt_e hF)
  · have hF := if_t h32 hF
    refine r_iconst (v := (-1 : Int32)) C dX10_fits_9 rfl ?_
    exact r_ireturn C dX10_fits_10 (rt_e hF)
def L_X10_right_4  : Nat → Int32 → Int32 → St → Option (Int32 × St)
  | 0, _, _, _ => none
  | n + 1, v1, v2, τ =>
  (if (τ.1 (20, 0, 0) 4) ≤ v2 then some (v1, τ) else bd (F_X5_value 0 (0 : Int32) τ) fun r2 σ1 => bd (F_X9_isSo v2 0 r2 σ1) fun r5 σ4 => nam (fun (y7 : Int32) (σ9 : St) => nam (v2 + (1 : Int32)) fun x10 => L_X10_right_4 n y7 x10 σ9) fun k8 => (if r5 = 0 then k8 v1 σ4 else nam (v1 ||| ((1 : Int32) <<< (v2 &&& 31))) fun x11 => k8 x11 σ4))
def F_X10_right  (σ : St) : Option (Int32 × St) :=
  L_X10_right_4  FU (0 : Int32) (0 : Int32) σ 
set_option maxRecDepth 20000 in
set_option maxHeartbeats 4000000 in
theorem l_X10_right_4 {G : Gx} {p : Program} {l : Launch} {e : Env} {s : State} {m : MethodId} {args : Array Value} {below : List Frame} {meth : Method} {c : Code} (C : Cx G p s m args meth c (some .int) 3 RX10 cX10_right)  {σ' : St} {r : Int32} : ∀ (n : Nat) (v1 : Int32) (v2 : Int32) (τ : St), L_X10_right_4  n v1 v2 τ = some (r, σ') → Rt G p l e (lvl 5) s m args below meth c 0 0 (MQ below (va_Qi (fun a b => a = r ∧ b = σ') (Wd G) (AG G)) args s 0 0 (AG G)) 3 4 [(0, vR (0, 0, 0)), (1, vI v1), (2, vI v2)] [] τ := by
  intro n
  induction n with
  | zero => intro v1 v2 τ hF; cases hF
  | succ n ih =>
    intro v1 v2 τ hF
    unfold L_X10_right_4 at hF
    refine r_iload_n C 2 2 dX10_right_4 rfl rfl ?_
    refine r_aload_n C 0 0 dX10_right_5 rfl rfl ?_
    refine r_getR (kf := 10) (d2 := (20, 0, 0)) C dX10_right_6 rfl rfl f_X10 (by decide) t_2_105 rfl rfl ?_
    refine r_getI (kf := 4) C dX10_right_9 rfl rfl f_X9 (by decide) t_2_48 rfl ?_
    refine r_icmp_ge C 50 dX10_right_12 (by decide)  (fun h13 => ?_) (fun h13 => ?_)
    · have hF := if_t h13 hF
      refine r_iload_n C 1 1 dX10_right_50 rfl rfl ?_
      exact r_ireturn C dX10_right_51 (rt_e hF)
    · have hF := if_f h13 hF
      refine r_aload_n C 0 0 dX10_right_15 rfl rfl ?_
      refine r_getR (kf := 10) (d2 := (20, 0, 0)) C dX10_right_16 rfl rfl f_X10 (by decide) t_2_105 rfl rfl ?_
      refine r_iload_n C 2 2 dX10_right_19 rfl rfl ?_
      refine r_aload_n C 0 0 dX10_right_20 rfl rfl ?_
      refine r_getR (kf := 4) (d2 := (3, 0, 0)) C dX10_right_21 rfl rfl f_X10 (by decide) t_2_99 rfl rfl ?_
      refine r_aload_n C 0 0 dX10_right_24 rfl rfl ?_
      refine r_getR (kf := 4) (d2 := (3, 0, 0)) C dX10_right_25 rfl rfl f_X10 (by decide) t_2_99 rfl rfl ?_
      refine r_iconst (v := (0 : Int32)) C dX10_right_28 rfl ?_
      obtain ⟨r2, σ1, e3, hF⟩ := bd_e hF
      refine r_callV_i (as := [vI (0 : Int32)]) (st := [vR (3, 0, 0), vI v2, vR (20, 0, 0)]) C dX10_right_29 (s_X5_value G l e3) rfl rfl rfl t_3_115 t_3_90 t_3_91 t_1_3 t_3_92 m_X5_value ⟨Nat.le_of_ble_eq_true rfl, Nat.le_of_ble_eq_true rfl⟩ ⟨rfl, rfl⟩ ⟨Nat.zero_le _, Nat.zero_le _⟩ rfl (Nat.le_of_ble_eq_true rfl) ?_
      obtain ⟨r5, σ4, e6, hF⟩ := bd_e hF
      refine r_callV_i (as := [vI v2, vR (3, 0, 0), vI r2]) (st := []) C dX10_right_32 (s_X9_isSo G l e6) rfl rfl rfl t_4_227 t_4_218 t_4_219 t_1_11 t_4_220 m_X9_isSo ⟨Nat.le_of_ble_eq_true rfl, Nat.le_of_ble_eq_true rfl⟩ ⟨rfl, rfl⟩ ⟨Nat.zero_le _, Nat.zero_le _⟩ rfl (Nat.le_of_ble_eq_true rfl) ?_
      obtain ⟨k8, ek8, hF⟩ := nam_e hF
      have hk8 : ∀ (y7 : Int32) (σ9 : St), k8 y7 σ9 = some (r, σ') → Rt G p l e (lvl 5) s m args below meth c 0 0 (MQ below (va_Qi (fun a b => a = r ∧ b = σ') (Wd G) (AG G)) args s 0 0 (AG G)) 3 44 [(0, vR (0, 0, 0)), (1, vI y7), (2, vI v2)] [] σ9 := by
        intro y7 σ9 hF
        subst ek8
        obtain ⟨x10, ex10, hF⟩ := nam_e hF
        refine r_iinc (v := x10) (ls2 := [(2, vI x10), (0, vR (0, 0, 0)), (1, vI y7)]) C 2 dX10_right_44 rfl ex10.symm (by decide) rfl ?_
        refine r_goto C 4 dX10_right_47 (by decide) ?_
        refine r_drop (ls2 := [(0, vR (0, 0, 0)), (1, vI y7), (2, vI x10)]) [1, 2, 0] rfl ?_
        exact ih _ _ _ hF
      refine r_if_eq C 44 dX10_right_35 (by decide)  (fun h12 => ?_) (fun h12 => ?_)
      · have hF := if_t h12 hF
        exact hk8 _ _ hF
      · have hF := if_f h12 hF
        refine r_iload_n C 1 1 dX10_right_38 rfl rfl ?_
        refine r_iconst (v := (1 : Int32)) C dX10_right_39 rfl ?_
        refine r_iload_n C 2 2 dX10_right_40 rfl rfl ?_
        refine r_ishl C dX10_right_41 ?_
        refine r_ior C dX10_right_42 ?_
        obtain ⟨x11, ex11, hF⟩ := nam_e hF
        refine r_topI ex11 ?_
        refine r_istore_n (ls2 := [(1, vI x11), (0, vR (0, 0, 0)), (2, vI v2)]) C dX10_right_43 1 rfl (by decide) rfl ?_
        refine r_drop (ls2 := [(0, vR (0, 0, 0)), (1, vI x11), (2, vI v2)]) [1, 0, 2] rfl ?_
        exact hk8 _ _ hF
set_option maxRecDepth 20000 in
set_option maxHeartbeats 4000000 in
theorem s_X10_right (G : Gx) (l : Launch)  {σ σ' : St} {r : Int32} (hF : F_X10_right  σ = some (r, σ')) : Sp G l yX10_right cX10_right 3 (some .int) (lvl 5) [vR (0, 0, 0)] σ (va_Qi (fun a b => a = r ∧ b = σ') (Wd G) (AG G)) := by
  refine Sp_of (own := RX10) (by decide) rfl (Nat.le_of_ble_eq_true rfl) ?_
  intro p e s m args below meth c C
  show Rt G p l e (lvl 5) s m args below meth c 0 0 (MQ below (va_Qi (fun a b => a = r ∧ b = σ') (Wd G) (AG G)) args s 0 0 (AG G)) 3 0 [(0, vR (0, 0, 0))] [] σ
  unfold F_X10_right at hF
  refine r_iconst (v := (0 : Int32)) C dX10_right_0 rfl ?_
  refine r_istore_n (ls2 := [(1, vI (0 : Int32)), (0, vR (0, 0, 0))]) C dX10_right_1 1 rfl (by decide) rfl ?_
  refine r_iconst (v := (0 : Int32)) C dX10_right_2 rfl ?_
  refine r_istore_n (ls2 := [(2, vI (0 : Int32)), (1, vI (0 : Int32)), (0, vR (0, 0, 0))]) C dX10_right_3 2 rfl (by decide) rfl ?_
  refine r_drop (ls2 := [(0, vR (0, 0, 0)), (1, vI (0 : Int32)), (2, vI (0 : Int32))]) [2, 1, 0] rfl ?_
  refine l_X10_right_4 C   _ _ _ _ hF
def F_X10_isSheet (a0 : Int32) (σ : St) : Option (Int32 × St) :=
  bd (F_X10_within a0 (0 : Int32) (3 : Int32) σ) fun r2 σ1 => ck (decide (r2 = 0 ∨ r2 = 1)) (some (r2, σ1))
set_option maxRecDepth 20000 in
set_option maxHeartbeats 4000000 in
theorem s_X10_isSheet (G : Gx) (l : Launch) {a0 : Int32} {σ σ' : St} {r : Int32} (hF : F_X10_isSheet a0 σ = some (r, σ')) : Sp G l yX10_isSheet cX10_isSheet 1 (some .boolean) (lvl 1) [vI a0] σ (va_Qi (fun a b => a = r ∧ b = σ') (Wd G) (AG G)) := by
  refine Sp_of (own := RX10) (by decide) rfl (Nat.le_of_ble_eq_true rfl) ?_
  intro p e s m args below meth c C
  show Rt G p l e (lvl 1) s m args below meth c 0 0 (MQ below (va_Qi (fun a b => a = r ∧ b = σ') (Wd G) (AG G)) args s 0 0 (AG G)) 1 0 [(0, vI a0)] [] σ
  unfold F_X10_isSheet at hF
  refine r_iload_n C 0 0 dX10_isSheet_0 rfl rfl ?_
  refine r_iconst (v := (0 : Int32)) C dX10_isSheet_1 rfl ?_
  refine r_iconst (v := (3 : Int32)) C dX10_isSheet_2 rfl ?_
  obtain ⟨r2, σ1, e3, hF⟩ := bd_e hF
  refine r_callS_i (as := [vI a0, vI (0 : Int32), vI (3 : Int32)]) (st := []) C dX10_isSheet_3 (s_X10_within G l e3) t_2_143 t_2_144 t_1_1 t_2_145 m_X10_within ⟨Nat.le_of_ble_eq_true rfl, Nat.le_of_ble_eq_true rfl⟩ ⟨rfl, rfl⟩ ⟨Nat.zero_le _, Nat.zero_le _⟩ rfl (Nat.le_of_ble_eq_true rfl) ?_
  obtain ⟨h4, hF⟩ := ck_e hF
  exact r_zreturn C dX10_isSheet_6 (nar_z (bz h4)) (rt_e hF)
def F_X10_isLane (a0 : Int32) (σ : St) : Option (Int32 × St) :=
  bd (F_X10_within a0 (0 : Int32) (2 : Int32) σ) fun r2 σ1 => ck (decide (r2 = 0 ∨ r2 = 1)) (some (r2, σ1))
set_option maxRecDepth 20000 in
set_option maxHeartbeats 4000000 in
theorem s_X10_isLane (G : Gx) (l : Launch) {a0 : Int32} {σ σ' : St} {r : Int32} (hF : F_X10_isLane a0 σ = some (r, σ')) : Sp G l yX10_isLane cX10_isLane 1 (some .boolean) (lvl 1) [vI a0] σ (va_Qi (fun a b => a = r ∧ b = σ') (Wd G) (AG G)) := by
  refine Sp_of (own := RX10) (by decide) rfl (Nat.le_of_ble_eq_true rfl) ?_
  intro p e s m args below meth c C
  show Rt G p l e (lvl 1) s m args below meth c 0 0 (MQ below (va_Qi (fun a b => a = r ∧ b = σ') (Wd G) (AG G)) args s 0 0 (AG G)) 1 0 [(0, vI a0)] [] σ
  unfold F_X10_isLane at hF
  refine r_iload_n C 0 0 dX10_isLane_0 rfl rfl ?_
  refine r_iconst (v := (0 : Int32)) C dX10_isLane_1 rfl ?_
  refine r_iconst (v := (2 : Int32)) C dX10_isLane_2 rfl ?_
  obtain ⟨r2, σ1, e3, hF⟩ := bd_e hF
  refine r_callS_i (as := [vI a0, vI (0 : Int32), vI (2 : Int32)]) (st := []) C dX10_isLane_3 (s_X10_within G l e3) t_2_143 t_2_144 t_1_1 t_2_145 m_X10_within ⟨Nat.le_of_ble_eq_true rfl, Nat.le_of_ble_eq_true rfl⟩ ⟨rfl, rfl⟩ ⟨Nat.zero_le _, Nat.zero_le _⟩ rfl (Nat.le_of_ble_eq_true rfl) ?_
  obtain ⟨h4, hF⟩ := ck_e hF
  exact r_zreturn C dX10_isLane_6 (nar_z (bz h4)) (rt_e hF)
def L_J7_fill_53178_t27_5 (q0 : Nat) (c1 : Int32) (c3 : Int32) : Nat → Int32 → St → Option (Unit × St)
  | 0, _, _ => none
  | n + 1, v2, τ =>
  (if c3 ≤ v2 then some ((), τ) else ck (inb v2 40) (nam (uI τ (27, q0, 0) (v2.toNatClampNeg) c1) fun σ2 => nam (v2 + (1 : Int32)) fun x3 => L_J7_fill_53178_t27_5 q0 c1 c3 n x3 σ2))
def F_J7_fill_53178_t27 (q0 : Nat) (a1 : Int32) (σ : St) : Option (Unit × St) :=
  L_J7_fill_53178_t27_5 q0 a1 (40 : Int32) FU (0 : Int32) σ 
set_option maxRecDepth 20000 in
set_option maxHeartbeats 4000000 in
theorem l_J7_fill_53178_t27_5 {G : Gx} {p : Program} {l : Launch} {e : Env} {s : State} {m : MethodId} {args : Array Value} {below : List Frame} {meth : Method} {c : Code} (C : Cx G p s m args meth c none 4 RJ7 cJ7_fill_53178) (q0 : Nat) (c1 : Int32) (c3 : Int32) {σ' : St}  : ∀ (n : Nat) (v2 : Int32) (τ : St), L_J7_fill_53178_t27_5 q0 c1 c3 n v2 τ = some ((), σ') → Rt G p l e (lvl 0) s m args below meth c 0 0 (MQ below (va_Qv (fun b => b = σ') (Wd G) (AG G)) args s 0 0 (AG G)) 4 5 [(0, vR (27, q0, 0)), (1, vI c1), (2, vI v2), (3, vI c3)] [] τ := by
  intro n
  induction n with
  | zero => intro v2 τ hF; cases hF
  | succ n ih =>
    intro v2 τ hF
    unfold L_J7_fill_53178_t27_5 at hF
    refine r_iload_n C 2 2 dJ7_fill_53178_5 rfl rfl ?_
    refine r_iload_n C 3 3 dJ7_fill_53178_6 rfl rfl ?_
    refine r_icmp_ge C 20 dJ7_fill_53178_7 (by decide)  (fun h4 => ?_) (fun h4 => ?_)
    · have hF := if_t h4 hF
      exact r_return C dJ7_fill_53178_20 (rv_e hF)
    · have hF := if_f h4 hF
      refine r_aload_n C 0 0 dJ7_fill_53178_10 rfl rfl ?_
      refine r_iload_n C 2 2 dJ7_fill_53178_11 rfl rfl ?_
      refine r_iload_n C 1 1 dJ7_fill_53178_12 rfl rfl ?_
      obtain ⟨h1, hF⟩ := ck_e hF
      obtain ⟨σ2, eσ2, hF⟩ := nam_e hF
      refine r_iastore C (v2.toNatClampNeg) dJ7_fill_53178_13 rfl h1 rfl eσ2 ?_
      obtain ⟨x3, ex3, hF⟩ := nam_e hF
      refine r_iinc (v := x3) (ls2 := [(2, vI x3), (0, vR (27, q0, 0)), (1, vI c1), (3, vI c3)]) C 2 dJ7_fill_53178_14 rfl ex3.symm (by decide) rfl ?_
      refine r_goto C 5 dJ7_fill_53178_17 (by decide) ?_
      refine r_drop (ls2 := [(0, vR (27, q0, 0)), (1, vI c1), (2, vI x3), (3, vI c3)]) [1, 2, 0, 3] rfl ?_
      exact ih _ _ hF
set_option maxRecDepth 20000 in
set_option maxHeartbeats 4000000 in
theorem s_J7_fill_53178_t27 (G : Gx) (l : Launch) {q0 : Nat} {a1 : Int32} {σ σ' : St}  (hF : F_J7_fill_53178_t27 q0 a1 σ = some ((), σ')) : Sp G l yJ7_fill_53178 cJ7_fill_53178 4 none (lvl 0) [vR (27, q0, 0), vI a1] σ (va_Qv (fun b => b = σ') (Wd G) (AG G)) := by
  refine Sp_of (own := RJ7) (by decide) rfl (Nat.le_of_ble_eq_true rfl) ?_
  intro p e s m args below meth c C
  show Rt G p l e (lvl 0) s m args below meth c 0 0 (MQ below (va_Qv (fun b => b = σ') (Wd G) (AG G)) args s 0 0 (AG G)) 4 0 [(0, vR (27, q0, 0)), (1, vI a1)] [] σ
  unfold F_J7_fill_53178_t27 at hF
  refine r_iconst (v := (0 : Int32)) C dJ7_fill_53178_0 rfl ?_
  refine r_istore_n (ls2 := [(2, vI (0 : Int32)), (0, vR (27, q0, 0)), (1, vI a1)]) C dJ7_fill_53178_1 2 rfl (by decide) rfl ?_
  refine r_aload_n C 1 0 dJ7_fill_53178_2 rfl rfl ?_
  refine r_alen (v := (40 : Int32)) C dJ7_fill_53178_3 rfl (by decide) rfl rfl ?_
  refine r_istore_n (ls2 := [(3, vI (40 : Int32)), (2, vI (0 : Int32)), (0, vR (27, q0, 0)), (1, vI a1)]) C dJ7_fill_53178_4 3 rfl (by decide) rfl ?_
  refine r_drop (ls2 := [(0, vR (27, q0, 0)), (1, vI a1), (2, vI (0 : Int32)), (3, vI (40 : Int32))]) [2, 3, 1, 0] rfl ?_
  refine l_J7_fill_53178_t27_5 C q0 a1 (40 : Int32)  _ _ _ hF
def F_X7_becomeNew (q0 : Nat) (a1 : Int32) (a2 : Int32) (σ : St) : Option (Unit × St) :=
  bd (F_J7_fill_53178_t27 q0 (0 : Int32) σ) fun _ σ1 => nam (uI σ1 (26, q0, 0) 1 a1) fun σ3 => nam (uI σ3 (26, q0, 0) 2 a2) fun σ4 => some ((), σ4)
set_option maxRecDepth 20000 in
set_option maxHeartbeats 4000000 in
theorem s_X7_becomeNew (G : Gx) (l : Launch) {q0 : Nat} {a1 : Int32} {a2 : Int32} {σ σ' : St}  (hF : F_X7_becomeNew q0 a1 a2 σ = some ((), σ')) : Sp G l yX7_becomeNew cX7_becomeNew 3 none (lvl 1) [vR (26, q0, 0), vI a1, vI a2] σ (va_Qv (fun b => b = σ') (Wd G) (AG G)) := by
  refine Sp_of (own := RX7) (by decide) rfl (Nat.le_of_ble_eq_true rfl) ?_
  intro p e s m args below meth c C
  show Rt G p l e (lvl 1) s m args below meth c 0 0 (MQ below (va_Qv (fun b => b = σ') (Wd G) (AG G)) args s 0 0 (AG G)) 3 0 [(0, vR (26, q0, 0)), (1, vI a1), (2, vI a2)] [] σ
  unfold F_X7_becomeNew at hF
  refine r_aload_n C 0 0 dX7_becomeNew_0 rfl rfl ?_
  refine r_getR (kf := 0) (d2 := (27, q0, 0)) C dX7_becomeNew_1 rfl rfl f_X7 (by decide) t_2_83 rfl rfl ?_
  refine r_iconst (v := (0 : Int32)) C dX7_becomeNew_4 rfl ?_
  obtain ⟨⟨⟩, σ1, e2, hF⟩ := bd_e hF
  refine r_callS_v (as := [vR (27, q0, 0), vI (0 : Int32)]) (st := []) C dX7_becomeNew_5 (s_J7_fill_53178_t27 G l e2) t_5_2 t_1_110 t_1_6 t_1_111 m_J7_fill_53178 ⟨Nat.le_of_ble_eq_true rfl, Nat.le_of_ble_eq_true rfl⟩ ⟨rfl, rfl⟩ ⟨Nat.zero_le _, Nat.zero_le _⟩ rfl (Nat.le_of_ble_eq_true rfl) ?_
  refine r_aload_n C 0 0 dX7_becomeNew_8 rfl rfl ?_
  refine r_iload_n C 1 1 dX7_becomeNew_9 rfl rfl ?_
  obtain ⟨σ3, eσ3, hF⟩ := nam_e hF
  refine r_put (kf := 1) (ty0 := tyX7) C dX7_becomeNew_10 rfl rfl f_X7 tyX7_ok nmX7 (by decide) t_2_84 rfl rfl rfl rfl eσ3 ?_
  refine r_aload_n C 0 0 dX7_becomeNew_13 rfl rfl ?_
  refine r_iload_n C 2 2 dX7_becomeNew_14 rfl rfl ?_
  obtain ⟨σ4, eσ4, hF⟩ := nam_e hF
  refine r_put (kf := 2) (ty0 := tyX7) C dX7_becomeNew_15 rfl rfl f_X7 tyX7_ok nmX7 (by decide) t_2_86 rfl rfl rfl rfl eσ4 ?_
  exact r_return C dX7_becomeNew_18 (rv_e hF)
def F_X10_sheet (a1 : Int32) (a2 : Int32) (a3 : Int32) (σ : St) : Option (Int32 × St) :=
  bd (F_X10_isSheet a1 σ) fun r2 σ1 => (if r2 = 0 then some ((-1 : Int32), σ1) else bd (F_X10_isLane a2 σ1) fun r5 σ4 => (if r5 = 0 then some ((-1 : Int32), σ4) else (if a3 ≤ (40 : Int32) then (if 0 ≤ a3 then ck (inb a1 4) (bd (F_X7_becomeNew (a1.toNatClampNeg) a2 a3 σ4) fun _ σ8 => some ((1 : Int32), σ8)) else some ((-14 : Int32), σ4)) else some ((-1 : Int32), σ4))))
set_option maxRecDepth 20000 in
set_option maxHeartbeats 4000000 in
theorem s_X10_sheet (G : Gx) (l : Launch) {a1 : Int32} {a2 : Int32} {a3 : Int32} {σ σ' : St} {r : Int32} (hF : F_X10_sheet a1 a2 a3 σ = some (r, σ')) : Sp G l yX10_sheet cX10_sheet 4 (some .int) (lvl 2) [vR (0, 0, 0), vI a1, vI a2, vI a3] σ (va_Qi (fun a b => a = r ∧ b = σ') (Wd G) (AG G)) := by
  refine Sp_of (own := RX10) (by decide) rfl (Nat.le_of_ble_eq_true rfl) ?_
  intro p e s m args below meth c C
  show Rt G p l e (lvl 2) s m args below meth c 0 0 (MQ below (va_Qi (fun a b => a = r ∧ b = σ') (Wd G) (AG G)) args s 0 0 (AG G)) 4 0 [(0, vR (0, 0, 0)), (1, vI a1), (2, vI a2), (3, vI a3)] [] σ
  unfold F_X10_sheet at hF
  refine r_iload_n C 1 1 dX10_sheet_0 rfl rfl ?_
  obtain ⟨r2, σ1, e3, hF⟩ := bd_e hF
  refine r_callS_i (as := [vI a1]) (st := []) C dX10_sheet_1 (s_X10_isSheet G l e3) t_4_232 t_4_233 t_1_1 t_4_234 m_X10_isSheet ⟨Nat.le_of_ble_eq_true rfl, Nat.le_of_ble_eq_true rfl⟩ ⟨rfl, rfl⟩ ⟨Nat.zero_le _, Nat.zero_le _⟩ rfl (Nat.le_of_ble_eq_true rfl) ?_
  refine r_if_eq C 20 dX10_sheet_4 (by decide)  (fun h13 => ?_) (fun h13 => ?_)
  · have hF := if_t h13 hF
    refine r_iconst (v := (-1 : Int32)) C dX10_sheet_20 rfl ?_
    exact r_ireturn C dX10_sheet_21 (rt_e hF)
  · have hF := if_f h13 hF
    refine r_iload_n C 2 2 dX10_sheet_7 rfl rfl ?_
    obtain ⟨r5, σ4, e6, hF⟩ := bd_e hF
    refine r_callS_i (as := [vI a2]) (st := []) C dX10_sheet_8 (s_X10_isLane G l e6) t_4_235 t_4_236 t_1_1 t_4_237 m_X10_isLane ⟨Nat.le_of_ble_eq_true rfl, Nat.le_of_ble_eq_true rfl⟩ ⟨rfl, rfl⟩ ⟨Nat.zero_le _, Nat.zero_le _⟩ rfl (Nat.le_of_ble_eq_true rfl) ?_
    refine r_if_eq C 20 dX10_sheet_11 (by decide)  (fun h12 => ?_) (fun h12 => ?_)
    · have hF := if_t h12 hF
      refine r_iconst (v := (-1 : Int32)) C dX10_sheet_20 rfl ?_
      exact r_ireturn C dX10_sheet_21 (rt_e hF)
    · have hF := if_f h12 hF
      refine r_iload_n C 3 3 dX10_sheet_14 rfl rfl ?_
      refine r_bipush (v := (40 : Int32)) C dX10_sheet_15 rfl ?_
      refine r_icmp_le C 22 dX10_sheet_17 (by decide)  (fun h11 => ?_) (fun h11 => ?_)
      · have hF := if_t h11 hF
        refine r_iload_n C 3 3 dX10_sheet_22 rfl rfl ?_
        refine r_if_ge C 29 dX10_sheet_23 (by decide)  (fun h10 => ?_) (fun h10 => ?_)
        · have hF := if_t h10 hF
          refine r_aload_n C 0 0 dX10_sheet_29 rfl rfl ?_
          refine r_getR (kf := 11) (d2 := (25, 0, 0)) C dX10_sheet_30 rfl rfl f_X10 (by decide) t_2_106 rfl rfl ?_
          refine r_iload_n C 1 1 dX10_sheet_33 rfl rfl ?_
          obtain ⟨h7, hF⟩ := ck_e hF
          refine r_aaload (cA := 0) (d2 := (26, (a1.toNatClampNeg), 0)) C dX10_sheet_34 rfl rfl h7 rfl ?_
          refine r_iload_n C 2 2 dX10_sheet_35 rfl rfl ?_
          refine r_iload_n C 3 3 dX10_sheet_36 rfl rfl ?_
          obtain ⟨⟨⟩, σ8, e9, hF⟩ := bd_e hF
          refine r_callV_v (as := [vI a2, vI a3]) (st := []) C dX10_sheet_37 (s_X7_becomeNew G l e9) rfl rfl rfl t_4_238 t_4_239 t_5_0 t_1_13 t_5_1 m_X7_becomeNew ⟨Nat.le_of_ble_eq_true rfl, Nat.le_of_ble_eq_true rfl⟩ ⟨rfl, rfl⟩ ⟨Nat.zero_le _, Nat.zero_le _⟩ rfl (Nat.le_of_ble_eq_true rfl) ?_
          refine r_iconst (v := (1 : Int32)) C dX10_sheet_40 rfl ?_
          exact r_ireturn C dX10_sheet_41 (rt_e hF)
        · have hF := if_f h10 hF
          refine r_bipush (v := (-14 : Int32)) C dX10_sheet_26 rfl ?_
          exact r_ireturn C dX10_sheet_28 (rt_e hF)
      · have hF := if_f h11 hF
        refine r_iconst (v := (-1 : Int32)) C dX10_sheet_20 rfl ?_
        exact r_ireturn C dX10_sheet_21 (rt_e hF)
def F_X7_faultAt (q0 : Nat) (a1 : Int32) (σ : St) : Option (Int32 × St) :=
  (if (σ.1 (26, q0, 0) 1) = (-1 : Int32) then some ((1 : Int32), σ) else (if a1 < 0 then some ((2 : Int32), σ) else (if a1 < (σ.1 (26, q0, 0) 2) then some ((0 : Int32), σ) else some ((2 : Int32), σ))))
set_option maxRecDepth 20000 in
set_option maxHeartbeats 4000000 in
theorem s_X7_faultAt (G : Gx) (l : Launch) {q0 : Nat} {a1 : Int32} {σ σ' : St} {r : Int32} (hF : F_X7_faultAt q0 a1 σ = some (r, σ')) : Sp G l yX7_faultAt cX7_faultAt 2 (some .int) (lvl 0) [vR (26, q0, 0), vI a1] σ (va_Qi (fun a b => a = r ∧ b = σ') (Wd G) (AG G)) := by
  refine Sp_of (own := RX7) (by decide) rfl (Nat.le_of_ble_eq_true rfl) ?_
  intro p e s m args below meth c C
  show Rt G p l e (lvl 0) s m args below meth c 0 0 (MQ below (va_Qi (fun a b => a = r ∧ b = σ') (Wd G) (AG G)) args s 0 0 (AG G)) 2 0 [(0, vR (26, q0, 0)), (1, vI a1)] [] σ
  unfold F_X7_faultAt at hF
  refine r_aload_n C 0 0 dX7_faultAt_0 rfl rfl ?_
  refine r_getI (kf := 1) C dX7_faultAt_1 rfl rfl f_X7 (by decide) t_2_84 rfl ?_
  refine r_iconst (v := (-1 : Int32)) C dX7_faultAt_4 rfl ?_
  refine r_icmp_ne C 10 dX7_faultAt_5 (by decide)  (fun h3 => ?_) (fun h3 => ?_)
  · have hF := if_f h3 hF
    refine r_iload_n C 1 1 dX7_faultAt_10 rfl rfl ?_
    refine r_if_lt C 22 dX7_faultAt_11 (by decide)  (fun h2 => ?_) (fun h2 => ?_)
    · have hF := if_t h2 hF
      refine r_iconst (v := (2 : Int32)) C dX7_faultAt_22 rfl ?_
      refine r_goto C 27 dX7_faultAt_23 (by decide) ?_
      exact r_ireturn C dX7_faultAt_27 (rt_e hF)
    · have hF := if_f h2 hF
      refine r_iload_n C 1 1 dX7_faultAt_14 rfl rfl ?_
      refine r_aload_n C 0 0 dX7_faultAt_15 rfl rfl ?_
      refine r_getI (kf := 2) C dX7_faultAt_16 rfl rfl f_X7 (by decide) t_2_86 rfl ?_
      refine r_icmp_lt C 26 dX7_faultAt_19 (by decide)  (fun h1 => ?_) (fun h1 => ?_)
      · have hF := if_t h1 hF
        refine r_iconst (v := (0 : Int32)) C dX7_faultAt_26 rfl ?_
        exact r_ireturn C dX7_faultAt_27 (rt_e hF)
      · have hF := if_f h1 hF
        refine r_iconst (v := (2 : Int32)) C dX7_faultAt_22 rfl ?_
        refine r_goto C 27 dX7_faultAt_23 (by decide) ?_
        exact r_ireturn C dX7_faultAt_27 (rt_e hF)
  · have hF := if_t h3 hF
    refine r_iconst (v := (1 : Int32)) C dX7_faultAt_8 rfl ?_
    exact r_ireturn C dX7_faultAt_9 (rt_e hF)
def F_X7_write (q0 : Nat) (a1 : Int32) (a2 : Int32) (σ : St) : Option (Unit × St) :=
  bd (F_X7_faultAt q0 a1 σ) fun r2 σ1 => (if r2 = 0 then nam (fun (y4 : Int32) (σ6 : St) => ck (inb a1 40) (nam (uI σ6 (27, q0, 0) (a1.toNatClampNeg) y4) fun σ8 => some ((), σ8))) fun k5 => (if (σ1.1 (26, q0, 0) 1) = 0 then k5 (a2.toInt8.toInt32) σ1 else (if (σ1.1 (26, q0, 0) 1) = (1 : Int32) then k5 (a2.toInt16.toInt32) σ1 else k5 a2 σ1)) else some ((), σ1))
set_option maxRecDepth 20000 in
set_option maxHeartbeats 4000000 in
theorem s_X7_write (G : Gx) (l : Launch) {q0 : Nat} {a1 : Int32} {a2 : Int32} {σ σ' : St}  (hF : F_X7_write q0 a1 a2 σ = some ((), σ')) : Sp G l yX7_write cX7_write 3 none (lvl 1) [vR (26, q0, 0), vI a1, vI a2] σ (va_Qv (fun b => b = σ') (Wd G) (AG G)) := by
  refine Sp_of (own := RX7) (by decide) rfl (Nat.le_of_ble_eq_true rfl) ?_
  intro p e s m args below meth c C
  show Rt G p l e (lvl 1) s m args below meth c 0 0 (MQ below (va_Qv (fun b => b = σ') (Wd G) (AG G)) args s 0 0 (AG G)) 3 0 [(0, vR (26, q0, 0)), (1, vI a1), (2, vI a2)] [] σ
  unfold F_X7_write at hF
  refine r_aload_n C 0 0 dX7_write_0 rfl rfl ?_
  refine r_iload_n C 1 1 dX7_write_1 rfl rfl ?_
  obtain ⟨r2, σ1, e3, hF⟩ := bd_e hF
  refine r_callV_i (as := [vI a1]) (st := []) C dX7_write_2 (s_X7_faultAt G l e3) rfl rfl rfl t_5_15 t_5_8 t_5_9 t_1_13 t_5_10 m_X7_faultAt ⟨Nat.le_of_ble_eq_true rfl, Nat.le_of_ble_eq_true rfl⟩ ⟨rfl, rfl⟩ ⟨Nat.zero_le _, Nat.zero_le _⟩ rfl (Nat.le_of_ble_eq_true rfl) ?_
  refine r_if_ne C 40 dX7_write_5 (by decide)  (fun h11 => ?_) (fun h11 => ?_)
  · have hF := if_f h11 hF
    exact r_return C dX7_write_40 (rv_e hF)
  · have hF := if_t h11 hF
    refine r_aload_n C 0 0 dX7_write_8 rfl rfl ?_
    refine r_getR (kf := 0) (d2 := (27, q0, 0)) C dX7_write_9 rfl rfl f_X7 (by decide) t_2_83 rfl rfl ?_
    refine r_iload_n C 1 1 dX7_write_12 rfl rfl ?_
    refine r_aload_n C 0 0 dX7_write_13 rfl rfl ?_
    refine r_getI (kf := 1) C dX7_write_14 rfl rfl f_X7 (by decide) t_2_84 rfl ?_
    obtain ⟨k5, ek5, hF⟩ := nam_e hF
    have hk5 : ∀ (y4 : Int32) (σ6 : St), k5 y4 σ6 = some ((), σ') → Rt G p l e (lvl 1) s m args below meth c 0 0 (MQ below (va_Qv (fun b => b = σ') (Wd G) (AG G)) args s 0 0 (AG G)) 3 39 [] [vI y4, vI a1, vR (27, q0, 0)] σ6 := by
      intro y4 σ6 hF
      subst ek5
      obtain ⟨h7, hF⟩ := ck_e hF
      obtain ⟨σ8, eσ8, hF⟩ := nam_e hF
      refine r_iastore C (a1.toNatClampNeg) dX7_write_39 rfl h7 rfl eσ8 ?_
      exact r_return C dX7_write_40 (rv_e hF)
    refine r_if_ne C 25 dX7_write_17 (by decide)  (fun h10 => ?_) (fun h10 => ?_)
    · have hF := if_f h10 hF
      refine r_aload_n C 0 0 dX7_write_25 rfl rfl ?_
      refine r_getI (kf := 1) C dX7_write_26 rfl rfl f_X7 (by decide) t_2_84 rfl ?_
      refine r_iconst (v := (1 : Int32)) C dX7_write_29 rfl ?_
      refine r_icmp_ne C 38 dX7_write_30 (by decide)  (fun h9 => ?_) (fun h9 => ?_)
      · have hF := if_f h9 hF
        refine r_iload_n C 2 2 dX7_write_38 rfl rfl ?_
        refine r_drop (ls2 := []) [] rfl ?_
        exact hk5 _ _ hF
      · have hF := if_t h9 hF
        refine r_iload_n C 2 2 dX7_write_33 rfl rfl ?_
        refine r_i2s C dX7_write_34 ?_
        refine r_goto C 39 dX7_write_35 (by decide) ?_
        refine r_drop (ls2 := []) [] rfl ?_
        exact hk5 _ _ hF
    · have hF := if_t h10 hF
      refine r_iload_n C 2 2 dX7_write_20 rfl rfl ?_
      refine r_i2b C dX7_write_21 ?_
      refine r_goto C 39 dX7_write_22 (by decide) ?_
      refine r_drop (ls2 := []) [] rfl ?_
      exact hk5 _ _ hF
def F_X10_lay (a1 : Int32) (a2 : Int32) (a3 : Int32) (σ : St) : Option (Int32 × St) :=
  bd (F_X10_isSheet a1 σ) fun r2 σ1 => (if r2 = 0 then some ((-1 : Int32), σ1) else ck (inb a1 4) (bd (F_X7_faultAt (a1.toNatClampNeg) a2 σ1) fun r6 σ5 => (if r6 = 0 then ck (inb a1 4) (bd (F_X7_write (a1.toNatClampNeg) a2 a3 σ5) fun _ σ9 => some ((1 : Int32), σ9)) else some ((-10 : Int32) - r6, σ5))))
set_option maxRecDepth 20000 in
set_option maxHeartbeats 4000000 in
theorem s_X10_lay (G : Gx) (l : Launch) {a1 : Int32} {a2 : Int32} {a3 : Int32} {σ σ' : St} {r : Int32} (hF : F_X10_lay a1 a2 a3 σ = some (r, σ')) : Sp G l yX10_lay cX10_lay 5 (some .int) (lvl 2) [vR (0, 0, 0), vI a1, vI a2, vI a3] σ (va_Qi (fun a b => a = r ∧ b = σ') (Wd G) (AG G)) := by
  refine Sp_of (own := RX10) (by decide) rfl (Nat.le_of_ble_eq_true rfl) ?_
  intro p e s m args below meth c C
  show Rt G p l e (lvl 2) s m args below meth c 0 0 (MQ below (va_Qi (fun a b => a = r ∧ b = σ') (Wd G) (AG G)) args s 0 0 (AG G)) 5 0 [(0, vR (0, 0, 0)), (1, vI a1), (2, vI a2), (3, vI a3)] [] σ
  unfold F_X10_lay at hF
  refine r_iload_n C 1 1 dX10_lay_0 rfl rfl ?_
  obtain ⟨r2, σ1, e3, hF⟩ := bd_e hF
  refine r_callS_i (as := [vI a1]) (st := []) C dX10_lay_1 (s_X10_isSheet G l e3) t_4_232 t_4_233 t_1_1 t_4_234 m_X10_isSheet ⟨Nat.le_of_ble_eq_true rfl, Nat.le_of_ble_eq_true rfl⟩ ⟨rfl, rfl⟩ ⟨Nat.zero_le _, Nat.zero_le _⟩ rfl (Nat.le_of_ble_eq_true rfl) ?_
  refine r_if_ne C 9 dX10_lay_4 (by decide)  (fun h12 => ?_) (fun h12 => ?_)
  · have hF := if_f h12 hF
    refine r_aload_n C 0 0 dX10_lay_9 rfl rfl ?_
    refine r_getR (kf := 11) (d2 := (25, 0, 0)) C dX10_lay_10 rfl rfl f_X10 (by decide) t_2_106 rfl rfl ?_
    refine r_iload_n C 1 1 dX10_lay_13 rfl rfl ?_
    obtain ⟨h4, hF⟩ := ck_e hF
    refine r_aaload (cA := 0) (d2 := (26, (a1.toNatClampNeg), 0)) C dX10_lay_14 rfl rfl h4 rfl ?_
    refine r_iload_n C 2 2 dX10_lay_15 rfl rfl ?_
    obtain ⟨r6, σ5, e7, hF⟩ := bd_e hF
    refine r_callV_i (as := [vI a2]) (st := []) C dX10_lay_16 (s_X7_faultAt G l e7) rfl rfl rfl t_5_7 t_5_8 t_5_9 t_1_13 t_5_10 m_X7_faultAt ⟨Nat.le_of_ble_eq_true rfl, Nat.le_of_ble_eq_true rfl⟩ ⟨rfl, rfl⟩ ⟨Nat.zero_le _, Nat.zero_le _⟩ rfl (Nat.le_of_ble_eq_true rfl) ?_
    refine r_istore (ls2 := [(4, vI r6), (0, vR (0, 0, 0)), (1, vI a1), (2, vI a2), (3, vI a3)]) C dX10_lay_19 (by decide) rfl ?_
    refine r_iload C 0 dX10_lay_21 rfl ?_
    refine r_if_eq C 32 dX10_lay_23 (by decide)  (fun h11 => ?_) (fun h11 => ?_)
    · have hF := if_t h11 hF
      refine r_aload_n C 1 0 dX10_lay_32 rfl rfl ?_
      refine r_getR (kf := 11) (d2 := (25, 0, 0)) C dX10_lay_33 rfl rfl f_X10 (by decide) t_2_106 rfl rfl ?_
      refine r_iload_n C 2 1 dX10_lay_36 rfl rfl ?_
      obtain ⟨h8, hF⟩ := ck_e hF
      refine r_aaload (cA := 0) (d2 := (26, (a1.toNatClampNeg), 0)) C dX10_lay_37 rfl rfl h8 rfl ?_
      refine r_iload_n C 3 2 dX10_lay_38 rfl rfl ?_
      refine r_iload_n C 4 3 dX10_lay_39 rfl rfl ?_
      obtain ⟨⟨⟩, σ9, e10, hF⟩ := bd_e hF
      refine r_callV_v (as := [vI a2, vI a3]) (st := []) C dX10_lay_40 (s_X7_write G l e10) rfl rfl rfl t_5_11 t_5_12 t_5_13 t_1_13 t_5_14 m_X7_write ⟨Nat.le_of_ble_eq_true rfl, Nat.le_of_ble_eq_true rfl⟩ ⟨rfl, rfl⟩ ⟨Nat.zero_le _, Nat.zero_le _⟩ rfl (Nat.le_of_ble_eq_true rfl) ?_
      refine r_iconst (v := (1 : Int32)) C dX10_lay_43 rfl ?_
      exact r_ireturn C dX10_lay_44 (rt_e hF)
    · have hF := if_f h11 hF
      refine r_bipush (v := (-10 : Int32)) C dX10_lay_26 rfl ?_
      refine r_iload C 0 dX10_lay_28 rfl ?_
      refine r_isub C dX10_lay_30 ?_
      exact r_ireturn C dX10_lay_31 (rt_e hF)
  · have hF := if_t h12 hF
    refine r_iconst (v := (-1 : Int32)) C dX10_lay_7 rfl ?_
    exact r_ireturn C dX10_lay_8 (rt_e hF)
def F_X7_faultOfDrop (q0 : Nat) (a1 : Int32) (a2 : Int32) (a3 : Int32) (σ : St) : Option (Int32 × St) :=
  (if (σ.1 (26, q0, 0) 1) = (-1 : Int32) then bd (F_X7_faultAt q0 a2 σ) fun r2 σ1 => (if r2 = 0 then bd (F_X7_faultAt q0 ((a2 + ((3 : Int32) * a3)) + (2 : Int32)) σ1) fun r5 σ4 => some (r5, σ4) else some (r2, σ1)) else (if (σ.1 (26, q0, 0) 1) = a1 then bd (F_X7_faultAt q0 a2 σ) fun r9 σ8 => (if r9 = 0 then bd (F_X7_faultAt q0 ((a2 + ((3 : Int32) * a3)) + (2 : Int32)) σ8) fun r12 σ11 => some (r12, σ11) else some (r9, σ8)) else some ((3 : Int32), σ)))
set_option maxRecDepth 20000 in
set_option maxHeartbeats 4000000 in
theorem s_X7_faultOfDrop (G : Gx) (l : Launch) {q0 : Nat} {a1 : Int32} {a2 : Int32} {a3 : Int32} {σ σ' : St} {r : Int32} (hF : F_X7_faultOfDrop q0 a1 a2 a3 σ = some (r, σ')) : Sp G l yX7_faultOfDrop cX7_faultOfDrop 5 (some .int) (lvl 1) [vR (26, q0, 0), vI a1, vI a2, vI a3] σ (va_Qi (fun a b => a = r ∧ b = σ') (Wd G) (AG G)) := by
  refine Sp_of (own := RX7) (by decide) rfl (Nat.le_of_ble_eq_true rfl) ?_
  intro p e s m args below meth c C
  show Rt G p l e (lvl 1) s m args below meth c 0 0 (MQ below (va_Qi (fun a b => a = r ∧ b = σ') (Wd G) (AG G)) args s 0 0 (AG G)) 5 0 [(0, vR (26, q0, 0)), (1, vI a1), (2, vI a2), (3, vI a3)] [] σ
  unfold F_X7_faultOfDrop at hF
  refine r_aload_n C 0 0 dX7_faultOfDrop_0 rfl rfl ?_
  refine r_getI (kf := 1) C dX7_faultOfDrop_1 rfl rfl f_X7 (by decide) t_2_84 rfl ?_
  refine r_iconst (v := (-1 : Int32)) C dX7_faultOfDrop_4 rfl ?_
  refine r_icmp_eq C 18 dX7_faultOfDrop_5 (by decide)  (fun h16 => ?_) (fun h16 => ?_)
  · have hF := if_t h16 hF
    refine r_aload_n C 0 0 dX7_faultOfDrop_18 rfl rfl ?_
    refine r_iload_n C 2 2 dX7_faultOfDrop_19 rfl rfl ?_
    obtain ⟨r2, σ1, e3, hF⟩ := bd_e hF
    refine r_callV_i (as := [vI a2]) (st := []) C dX7_faultOfDrop_20 (s_X7_faultAt G l e3) rfl rfl rfl t_5_15 t_5_8 t_5_9 t_1_13 t_5_10 m_X7_faultAt ⟨Nat.le_of_ble_eq_true rfl, Nat.le_of_ble_eq_true rfl⟩ ⟨rfl, rfl⟩ ⟨Nat.zero_le _, Nat.zero_le _⟩ rfl (Nat.le_of_ble_eq_true rfl) ?_
    refine r_istore (ls2 := [(4, vI r2), (0, vR (26, q0, 0)), (1, vI a1), (2, vI a2), (3, vI a3)]) C dX7_faultOfDrop_23 (by decide) rfl ?_
    refine r_iload C 0 dX7_faultOfDrop_25 rfl ?_
    refine r_if_eq C 35 dX7_faultOfDrop_27 (by decide)  (fun h7 => ?_) (fun h7 => ?_)
    · have hF := if_t h7 hF
      refine r_aload_n C 1 0 dX7_faultOfDrop_35 rfl rfl ?_
      refine r_iload_n C 3 2 dX7_faultOfDrop_36 rfl rfl ?_
      refine r_iconst (v := (3 : Int32)) C dX7_faultOfDrop_37 rfl ?_
      refine r_iload_n C 4 3 dX7_faultOfDrop_38 rfl rfl ?_
      refine r_imul C dX7_faultOfDrop_39 ?_
      refine r_iadd C dX7_faultOfDrop_40 ?_
      refine r_iconst (v := (2 : Int32)) C dX7_faultOfDrop_41 rfl ?_
      refine r_iadd C dX7_faultOfDrop_42 ?_
      obtain ⟨r5, σ4, e6, hF⟩ := bd_e hF
      refine r_callV_i (as := [vI ((a2 + ((3 : Int32) * a3)) + (2 : Int32))]) (st := []) C dX7_faultOfDrop_43 (s_X7_faultAt G l e6) rfl rfl rfl t_5_15 t_5_8 t_5_9 t_1_13 t_5_10 m_X7_faultAt ⟨Nat.le_of_ble_eq_true rfl, Nat.le_of_ble_eq_true rfl⟩ ⟨rfl, rfl⟩ ⟨Nat.zero_le _, Nat.zero_le _⟩ rfl (Nat.le_of_ble_eq_true rfl) ?_
      exact r_ireturn C dX7_faultOfDrop_46 (rt_e hF)
    · have hF := if_f h7 hF
      refine r_iload C 0 dX7_faultOfDrop_30 rfl ?_
      refine r_goto C 46 dX7_faultOfDrop_32 (by decide) ?_
      exact r_ireturn C dX7_faultOfDrop_46 (rt_e hF)
  · have hF := if_f h16 hF
    refine r_aload_n C 0 0 dX7_faultOfDrop_8 rfl rfl ?_
    refine r_getI (kf := 1) C dX7_faultOfDrop_9 rfl rfl f_X7 (by decide) t_2_84 rfl ?_
    refine r_iload_n C 1 1 dX7_faultOfDrop_12 rfl rfl ?_
    refine r_icmp_eq C 18 dX7_faultOfDrop_13 (by decide)  (fun h15 => ?_) (fun h15 => ?_)
    · have hF := if_t h15 hF
      refine r_aload_n C 0 0 dX7_faultOfDrop_18 rfl rfl ?_
      refine r_iload_n C 2 2 dX7_faultOfDrop_19 rfl rfl ?_
      obtain ⟨r9, σ8, e10, hF⟩ := bd_e hF
      refine r_callV_i (as := [vI a2]) (st := []) C dX7_faultOfDrop_20 (s_X7_faultAt G l e10) rfl rfl rfl t_5_15 t_5_8 t_5_9 t_1_13 t_5_10 m_X7_faultAt ⟨Nat.le_of_ble_eq_true rfl, Nat.le_of_ble_eq_true rfl⟩ ⟨rfl, rfl⟩ ⟨Nat.zero_le _, Nat.zero_le _⟩ rfl (Nat.le_of_ble_eq_true rfl) ?_
      refine r_istore (ls2 := [(4, vI r9), (0, vR (26, q0, 0)), (1, vI a1), (2, vI a2), (3, vI a3)]) C dX7_faultOfDrop_23 (by decide) rfl ?_
      refine r_iload C 0 dX7_faultOfDrop_25 rfl ?_
      refine r_if_eq C 35 dX7_faultOfDrop_27 (by decide)  (fun h14 => ?_) (fun h14 => ?_)
      · have hF := if_t h14 hF
        refine r_aload_n C 1 0 dX7_faultOfDrop_35 rfl rfl ?_
        refine r_iload_n C 3 2 dX7_faultOfDrop_36 rfl rfl ?_
        refine r_iconst (v := (3 : Int32)) C dX7_faultOfDrop_37 rfl ?_
        refine r_iload_n C 4 3 dX7_faultOfDrop_38 rfl rfl ?_
        refine r_imul C dX7_faultOfDrop_39 ?_
        refine r_iadd C dX7_faultOfDrop_40 ?_
        refine r_iconst (v := (2 : Int32)) C dX7_faultOfDrop_41 rfl ?_
        refine r_iadd C dX7_faultOfDrop_42 ?_
        obtain ⟨r12, σ11, e13, hF⟩ := bd_e hF
        refine r_callV_i (as := [vI ((a2 + ((3 : Int32) * a3)) + (2 : Int32))]) (st := []) C dX7_faultOfDrop_43 (s_X7_faultAt G l e13) rfl rfl rfl t_5_15 t_5_8 t_5_9 t_1_13 t_5_10 m_X7_faultAt ⟨Nat.le_of_ble_eq_true rfl, Nat.le_of_ble_eq_true rfl⟩ ⟨rfl, rfl⟩ ⟨Nat.zero_le _, Nat.zero_le _⟩ rfl (Nat.le_of_ble_eq_true rfl) ?_
        exact r_ireturn C dX7_faultOfDrop_46 (rt_e hF)
      · have hF := if_f h14 hF
        refine r_iload C 0 dX7_faultOfDrop_30 rfl ?_
        refine r_goto C 46 dX7_faultOfDrop_32 (by decide) ?_
        exact r_ireturn C dX7_faultOfDrop_46 (rt_e hF)
    · have hF := if_f h15 hF
      refine r_iconst (v := (3 : Int32)) C dX7_faultOfDrop_16 rfl ?_
      exact r_ireturn C dX7_faultOfDrop_17 (rt_e hF)
def F_X7_valueAt (q0 : Nat) (a1 : Int32) (σ : St) : Option (Int32 × St) :=
  bd (F_X7_faultAt q0 a1 σ) fun r2 σ1 => (if r2 = 0 then ck (inb a1 40) (some (σ1.1 (27, q0, 0) (a1.toNatClampNeg), σ1)) else some ((0 : Int32), σ1))
set_option maxRecDepth 20000 in
set_option maxHeartbeats 4000000 in
theorem s_X7_valueAt (G : Gx) (l : Launch) {q0 : Nat} {a1 : Int32} {σ σ' : St} {r : Int32} (hF : F_X7_valueAt q0 a1 σ = some (r, σ')) : Sp G l yX7_valueAt cX7_valueAt 2 (some .int) (lvl 1) [vR (26, q0, 0), vI a1] σ (va_Qi (fun a b => a = r ∧ b = σ') (Wd G) (AG G)) := by
  refine Sp_of (own := RX7) (by decide) rfl (Nat.le_of_ble_eq_true rfl) ?_
  intro p e s m args below meth c C
  show Rt G p l e (lvl 1) s m args below meth c 0 0 (MQ below (va_Qi (fun a b => a = r ∧ b = σ') (Wd G) (AG G)) args s 0 0 (AG G)) 2 0 [(0, vR (26, q0, 0)), (1, vI a1)] [] σ
  unfold F_X7_valueAt at hF
  refine r_aload_n C 0 0 dX7_valueAt_0 rfl rfl ?_
  refine r_iload_n C 1 1 dX7_valueAt_1 rfl rfl ?_
  obtain ⟨r2, σ1, e3, hF⟩ := bd_e hF
  refine r_callV_i (as := [vI a1]) (st := []) C dX7_valueAt_2 (s_X7_faultAt G l e3) rfl rfl rfl t_5_15 t_5_8 t_5_9 t_1_13 t_5_10 m_X7_faultAt ⟨Nat.le_of_ble_eq_true rfl, Nat.le_of_ble_eq_true rfl⟩ ⟨rfl, rfl⟩ ⟨Nat.zero_le _, Nat.zero_le _⟩ rfl (Nat.le_of_ble_eq_true rfl) ?_
  refine r_if_ne C 17 dX7_valueAt_5 (by decide)  (fun h5 => ?_) (fun h5 => ?_)
  · have hF := if_f h5 hF
    refine r_iconst (v := (0 : Int32)) C dX7_valueAt_17 rfl ?_
    exact r_ireturn C dX7_valueAt_18 (rt_e hF)
  · have hF := if_t h5 hF
    refine r_aload_n C 0 0 dX7_valueAt_8 rfl rfl ?_
    refine r_getR (kf := 0) (d2 := (27, q0, 0)) C dX7_valueAt_9 rfl rfl f_X7 (by decide) t_2_83 rfl rfl ?_
    refine r_iload_n C 1 1 dX7_valueAt_12 rfl rfl ?_
    obtain ⟨h4, hF⟩ := ck_e hF
    refine r_iaload C (a1.toNatClampNeg) dX7_valueAt_13 rfl h4 rfl ?_
    refine r_goto C 18 dX7_valueAt_14 (by decide) ?_
    exact r_ireturn C dX7_valueAt_18 (rt_e hF)
def L_X10_read_62 (c2 : Int32) (c3 : Int32) (c4 : Int32) (q_5 : Nat) (c6 : Int32) (c7 : Int32) : Nat → Int32 → Int32 → Int32 → St → (Int32 → Int32 → St → Option (Int32 × St)) → (Int32 → Int32 → St → Option (Int32 × St)) → Option (Int32 × St)
  | 0, _, _, _, _, _, _ => none
  | n + 1, v8, v9, v10, τ, kx134, kx179 =>
  (if c4 ≤ v10 then kx179 v8 v9 τ else (if v9 = 0 then bd (F_X7_faultOfDrop q_5 c2 c3 v10 τ) fun r14 σ13 => (if r14 = 0 then nam (c3 + ((3 : Int32) * v10)) fun x17 => bd (F_X7_valueAt q_5 x17 σ13) fun r19 σ18 => bd (F_X7_valueAt q_5 (x17 + (1 : Int32)) σ18) fun r22 σ21 => bd (F_X7_valueAt q_5 (x17 + (2 : Int32)) σ21) fun r25 σ24 => bd (F_X10_setDown r19 r22 r25 σ24) fun r28 σ27 => (if 0 ≤ r28 then nam (v8 + (1 : Int32)) fun x30 => nam (v10 + (1 : Int32)) fun x31 => L_X10_read_62 c2 c3 c4 q_5 c6 c7 n x30 r14 x31 σ27 kx134 kx179 else kx134 v10 r28 σ27) else nam (v10 + (1 : Int32)) fun x16 => L_X10_read_62 c2 c3 c4 q_5 c6 c7 n v8 r14 x16 σ13 kx134 kx179) else kx179 v8 v9 τ))
def F_X10_read (a1 : Int32) (a2 : Int32) (a3 : Int32) (a4 : Int32) (σ : St) : Option (Int32 × St) :=
  bd (F_X10_isSheet a1 σ) fun r2 σ1 => (if r2 = 0 then some ((-1 : Int32), σ1) else bd (F_X10_isLane a2 σ1) fun r5 σ4 => (if r5 = 0 then some ((-1 : Int32), σ4) else bd (F_X10_within a4 (0 : Int32) (12 : Int32) σ4) fun r8 σ7 => (if r8 = 0 then some ((-1 : Int32), σ7) else ck (inb a1 4) (nam (σ7.1 (7, 0, 0) 2) fun x11 => nam (σ7.1 (7, 0, 0) 10) fun x12 => L_X10_read_62 a2 a3 a4 (a1.toNatClampNeg) x11 x12 FU (0 : Int32) (0 : Int32) (0 : Int32) σ7 (fun (y37 : Int32) (y38 : Int32) (σ36 : St) => nam (uI σ36 (7, 0, 0) 2 x11) fun σ39 => nam (uI σ39 (7, 0, 0) 10 x12) fun σ40 => (if y38 = (-3 : Int32) then some ((-3 : Int32), σ40) else some ((-20 : Int32) - y37, σ40))) (fun (y43 : Int32) (y44 : Int32) (σ42 : St) => nam (uI σ42 (0, 0, 0) 12 y44) fun σ45 => some (y43, σ45))))))
set_option maxRecDepth 20000 in
set_option maxHeartbeats 4000000 in
theorem l_X10_read_62 {G : Gx} {p : Program} {l : Launch} {e : Env} {s : State} {m : MethodId} {args : Array Value} {below : List Frame} {meth : Method} {c : Code} (C : Cx G p s m args meth c (some .int) 13 RX10 cX10_read) (c2 : Int32) (c3 : Int32) (c4 : Int32) (q_5 : Nat) (c6 : Int32) (c7 : Int32) {σ' : St} {r : Int32} (kx134 : Int32 → Int32 → St → Option (Int32 × St)) (hkx134 : ∀ (w10 : Int32) (w12 : Int32) (τ : St), kx134 w10 w12 τ = some (r, σ') → Rt G p l e (lvl 4) s m args below meth c 0 0 (MQ below (va_Qi (fun a b => a = r ∧ b = σ') (Wd G) (AG G)) args s 0 0 (AG G)) 13 134 [(0, vR (0, 0, 0)), (6, vI c6), (7, vI c7), (10, vI w10), (12, vI w12)] [] τ) (kx179 : Int32 → Int32 → St → Option (Int32 × St)) (hkx179 : ∀ (w8 : Int32) (w9 : Int32) (τ : St), kx179 w8 w9 τ = some (r, σ') → Rt G p l e (lvl 4) s m args below meth c 0 0 (MQ below (va_Qi (fun a b => a = r ∧ b = σ') (Wd G) (AG G)) args s 0 0 (AG G)) 13 179 [(0, vR (0, 0, 0)), (8, vI w8), (9, vI w9)] [] τ) : ∀ (n : Nat) (v8 : Int32) (v9 : Int32) (v10 : Int32) (τ : St), L_X10_read_62 c2 c3 c4 q_5 c6 c7 n v8 v9 v10 τ kx134 kx179 = some (r, σ') → Rt G p l e (lvl 4) s m args below meth c 0 0 (MQ below (va_Qi (fun a b => a = r ∧ b = σ') (Wd G) (AG G)) args s 0 0 (AG G)) 13 62 [(0, vR (0, 0, 0)), (2, vI c2), (3, vI c3), (4, vI c4), (5, vR (26, q_5, 0)), (6, vI c6), (7, vI c7), (8, vI v8), (9, vI v9), (10, vI v10)] [] τ := by
  intro n
  induction n with
  | zero => intro v8 v9 v10 τ hF; cases hF
  | succ n ih =>
    intro v8 v9 v10 τ hF
    unfold L_X10_read_62 at hF
    refine r_iload C 9 dX10_read_62 rfl ?_
    refine r_iload C 3 dX10_read_64 rfl ?_
    refine r_icmp_ge C 179 dX10_read_66 (by decide)  (fun h35 => ?_) (fun h35 => ?_)
    · have hF := if_t h35 hF
      refine r_drop (ls2 := [(0, vR (0, 0, 0)), (8, vI v8), (9, vI v9)]) [0, 7, 8] rfl ?_
      exact hkx179 _ _ _ hF
    · have hF := if_f h35 hF
      refine r_iload C 8 dX10_read_69 rfl ?_
      refine r_if_ne C 179 dX10_read_71 (by decide)  (fun h34 => ?_) (fun h34 => ?_)
      · have hF := if_f h34 hF
        refine r_drop (ls2 := [(0, vR (0, 0, 0)), (8, vI v8), (9, vI v9)]) [0, 7, 8] rfl ?_
        exact hkx179 _ _ _ hF
      · have hF := if_t h34 hF
        refine r_aload C 4 dX10_read_74 rfl ?_
        refine r_iload_n C 1 2 dX10_read_76 rfl rfl ?_
        refine r_iload_n C 2 3 dX10_read_77 rfl rfl ?_
        refine r_iload C 9 dX10_read_78 rfl ?_
        obtain ⟨r14, σ13, e15, hF⟩ := bd_e hF
        refine r_callV_i (as := [vI c2, vI c3, vI v10]) (st := []) C dX10_read_80 (s_X7_faultOfDrop G l e15) rfl rfl rfl t_5_20 t_5_21 t_5_22 t_1_13 t_5_23 m_X7_faultOfDrop ⟨Nat.le_of_ble_eq_true rfl, Nat.le_of_ble_eq_true rfl⟩ ⟨rfl, rfl⟩ ⟨Nat.zero_le _, Nat.zero_le _⟩ rfl (Nat.le_of_ble_eq_true rfl) ?_
        refine r_istore (ls2 := [(9, vI r14), (0, vR (0, 0, 0)), (2, vI c2), (3, vI c3), (4, vI c4), (5, vR (26, q_5, 0)), (6, vI c6), (7, vI c7), (8, vI v8), (10, vI v10)]) C dX10_read_83 (by decide) rfl ?_
        refine r_iload C 0 dX10_read_85 rfl ?_
        refine r_if_ne C 173 dX10_read_87 (by decide)  (fun h33 => ?_) (fun h33 => ?_)
        · have hF := if_f h33 hF
          obtain ⟨x16, ex16, hF⟩ := nam_e hF
          refine r_iinc (v := x16) (ls2 := [(10, vI x16), (9, vI r14), (0, vR (0, 0, 0)), (2, vI c2), (3, vI c3), (4, vI c4), (5, vR (26, q_5, 0)), (6, vI c6), (7, vI c7), (8, vI v8)]) C 9 dX10_read_173 rfl ex16.symm (by decide) rfl ?_
          refine r_goto C 62 dX10_read_176 (by decide) ?_
          refine r_drop (ls2 := [(0, vR (0, 0, 0)), (2, vI c2), (3, vI c3), (4, vI c4), (5, vR (26, q_5, 0)), (6, vI c6), (7, vI c7), (8, vI v8), (9, vI r14), (10, vI x16)]) [2, 3, 4, 5, 6, 7, 8, 9, 1, 0] rfl ?_
          exact ih _ _ _ _ hF
        · have hF := if_t h33 hF
          refine r_iload_n C 3 3 dX10_read_90 rfl rfl ?_
          refine r_iconst (v := (3 : Int32)) C dX10_read_91 rfl ?_
          refine r_iload C 9 dX10_read_92 rfl ?_
          refine r_imul C dX10_read_94 ?_
          refine r_iadd C dX10_read_95 ?_
          obtain ⟨x17, ex17, hF⟩ := nam_e hF
          refine r_topI ex17 ?_
          refine r_istore (ls2 := [(11, vI x17), (9, vI r14), (0, vR (0, 0, 0)), (2, vI c2), (3, vI c3), (4, vI c4), (5, vR (26, q_5, 0)), (6, vI c6), (7, vI c7), (8, vI v8), (10, vI v10)]) C dX10_read_96 (by decide) rfl ?_
          refine r_aload_n C 2 0 dX10_read_98 rfl rfl ?_
          refine r_aload C 6 dX10_read_99 rfl ?_
          refine r_iload C 0 dX10_read_101 rfl ?_
          obtain ⟨r19, σ18, e20, hF⟩ := bd_e hF
          refine r_callV_i (as := [vI x17]) (st := [vR (0, 0, 0)]) C dX10_read_103 (s_X7_valueAt G l e20) rfl rfl rfl t_5_24 t_5_25 t_5_26 t_1_13 t_5_27 m_X7_valueAt ⟨Nat.le_of_ble_eq_true rfl, Nat.le_of_ble_eq_true rfl⟩ ⟨rfl, rfl⟩ ⟨Nat.zero_le _, Nat.zero_le _⟩ rfl (Nat.le_of_ble_eq_true rfl) ?_
          refine r_aload C 6 dX10_read_106 rfl ?_
          refine r_iload C 0 dX10_read_108 rfl ?_
          refine r_iconst (v := (1 : Int32)) C dX10_read_110 rfl ?_
          refine r_iadd C dX10_read_111 ?_
          obtain ⟨r22, σ21, e23, hF⟩ := bd_e hF
          refine r_callV_i (as := [vI (x17 + (1 : Int32))]) (st := [vI r19, vR (0, 0, 0)]) C dX10_read_112 (s_X7_valueAt G l e23) rfl rfl rfl t_5_24 t_5_25 t_5_26 t_1_13 t_5_27 m_X7_valueAt ⟨Nat.le_of_ble_eq_true rfl, Nat.le_of_ble_eq_true rfl⟩ ⟨rfl, rfl⟩ ⟨Nat.zero_le _, Nat.zero_le _⟩ rfl (Nat.le_of_ble_eq_true rfl) ?_
          refine r_aload C 6 dX10_read_115 rfl ?_
          refine r_iload C 0 dX10_read_117 rfl ?_
          refine r_iconst (v := (2 : Int32)) C dX10_read_119 rfl ?_
          refine r_iadd C dX10_read_120 ?_
          obtain ⟨r25, σ24, e26, hF⟩ := bd_e hF
          refine r_callV_i (as := [vI (x17 + (2 : Int32))]) (st := [vI r22, vI r19, vR (0, 0, 0)]) C dX10_read_121 (s_X7_valueAt G l e26) rfl rfl rfl t_5_24 t_5_25 t_5_26 t_1_13 t_5_27 m_X7_valueAt ⟨Nat.le_of_ble_eq_true rfl, Nat.le_of_ble_eq_true rfl⟩ ⟨rfl, rfl⟩ ⟨Nat.zero_le _, Nat.zero_le _⟩ rfl (Nat.le_of_ble_eq_true rfl) ?_
          obtain ⟨r28, σ27, e29, hF⟩ := bd_e hF
          refine r_callV_i (as := [vI r19, vI r22, vI r25]) (st := []) C dX10_read_124 (s_X10_setDown G l e29) rfl rfl rfl t_3_150 t_3_152 t_s_10 t_1_1 t_3_153 m_X10_setDown ⟨Nat.le_of_ble_eq_true rfl, Nat.le_of_ble_eq_true rfl⟩ ⟨rfl, rfl⟩ ⟨Nat.zero_le _, Nat.zero_le _⟩ rfl (Nat.le_of_ble_eq_true rfl) ?_
          refine r_istore (ls2 := [(12, vI r28), (11, vI x17), (9, vI r14), (0, vR (0, 0, 0)), (2, vI c2), (3, vI c3), (4, vI c4), (5, vR (26, q_5, 0)), (6, vI c6), (7, vI c7), (8, vI v8), (10, vI v10)]) C dX10_read_127 (by decide) rfl ?_
          refine r_iload C 0 dX10_read_129 rfl ?_
          refine r_if_ge C 170 dX10_read_131 (by decide)  (fun h32 => ?_) (fun h32 => ?_)
          · have hF := if_t h32 hF
            obtain ⟨x30, ex30, hF⟩ := nam_e hF
            refine r_iinc (v := x30) (ls2 := [(8, vI x30), (12, vI r28), (11, vI x17), (9, vI r14), (0, vR (0, 0, 0)), (2, vI c2), (3, vI c3), (4, vI c4), (5, vR (26, q_5, 0)), (6, vI c6), (7, vI c7), (10, vI v10)]) C 10 dX10_read_170 rfl ex30.symm (by decide) rfl ?_
            obtain ⟨x31, ex31, hF⟩ := nam_e hF
            refine r_iinc (v := x31) (ls2 := [(10, vI x31), (8, vI x30), (12, vI r28), (11, vI x17), (9, vI r14), (0, vR (0, 0, 0)), (2, vI c2), (3, vI c3), (4, vI c4), (5, vR (26, q_5, 0)), (6, vI c6), (7, vI c7)]) C 11 dX10_read_173 rfl ex31.symm (by decide) rfl ?_
            refine r_goto C 62 dX10_read_176 (by decide) ?_
            refine r_drop (ls2 := [(0, vR (0, 0, 0)), (2, vI c2), (3, vI c3), (4, vI c4), (5, vR (26, q_5, 0)), (6, vI c6), (7, vI c7), (8, vI x30), (9, vI r14), (10, vI x31)]) [5, 6, 7, 8, 9, 10, 11, 1, 4, 0] rfl ?_
            exact ih _ _ _ _ hF
          · have hF := if_f h32 hF
            refine r_drop (ls2 := [(0, vR (0, 0, 0)), (6, vI c6), (7, vI c7), (10, vI v10), (12, vI r28)]) [3, 8, 9, 11, 0] rfl ?_
            exact hkx134 _ _ _ hF
set_option maxRecDepth 20000 in
set_option maxHeartbeats 4000000 in
theorem s_X10_read (G : Gx) (l : Launch) {a1 : Int32} {a2 : Int32} {a3 : Int32} {a4 : Int32} {σ σ' : St} {r : Int32} (hF : F_X10_read a1 a2 a3 a4 σ = some (r, σ')) : Sp G l yX10_read cX10_read 13 (some .int) (lvl 4) [vR (0, 0, 0), vI a1, vI a2, vI a3, vI a4] σ (va_Qi (fun a b => a = r ∧ b = σ') (Wd G) (AG G)) := by
  refine Sp_of (own := RX10) (by decide) rfl (Nat.le_of_ble_eq_true rfl) ?_
  intro p e s m args below meth c C
  show Rt G p l e (lvl 4) s m args below meth c 0 0 (MQ below (va_Qi (fun a b => a = r ∧ b = σ') (Wd G) (AG G)) args s 0 0 (AG G)) 13 0 [(0, vR (0, 0, 0)), (1, vI a1), (2, vI a2), (3, vI a3), (4, vI a4)] [] σ
  unfold F_X10_read at hF
  refine r_iload_n C 1 1 dX10_read_0 rfl rfl ?_
  obtain ⟨r2, σ1, e3, hF⟩ := bd_e hF
  refine r_callS_i (as := [vI a1]) (st := []) C dX10_read_1 (s_X10_isSheet G l e3) t_4_232 t_4_233 t_1_1 t_4_234 m_X10_isSheet ⟨Nat.le_of_ble_eq_true rfl, Nat.le_of_ble_eq_true rfl⟩ ⟨rfl, rfl⟩ ⟨Nat.zero_le _, Nat.zero_le _⟩ rfl (Nat.le_of_ble_eq_true rfl) ?_
  refine r_if_eq C 25 dX10_read_4 (by decide)  (fun h48 => ?_) (fun h48 => ?_)
  · have hF := if_t h48 hF
    refine r_iconst (v := (-1 : Int32)) C dX10_read_25 rfl ?_
    exact r_ireturn C dX10_read_26 (rt_e hF)
  · have hF := if_f h48 hF
    refine r_iload_n C 2 2 dX10_read_7 rfl rfl ?_
    obtain ⟨r5, σ4, e6, hF⟩ := bd_e hF
    refine r_callS_i (as := [vI a2]) (st := []) C dX10_read_8 (s_X10_isLane G l e6) t_4_235 t_4_236 t_1_1 t_4_237 m_X10_isLane ⟨Nat.le_of_ble_eq_true rfl, Nat.le_of_ble_eq_true rfl⟩ ⟨rfl, rfl⟩ ⟨Nat.zero_le _, Nat.zero_le _⟩ rfl (Nat.le_of_ble_eq_true rfl) ?_
    refine r_if_eq C 25 dX10_read_11 (by decide)  (fun h47 => ?_) (fun h47 => ?_)
    · have hF := if_t h47 hF
      refine r_iconst (v := (-1 : Int32)) C dX10_read_25 rfl ?_
      exact r_ireturn C dX10_read_26 (rt_e hF)
    · have hF := if_f h47 hF
      refine r_iload C 4 dX10_read_14 rfl ?_
      refine r_iconst (v := (0 : Int32)) C dX10_read_16 rfl ?_
      refine r_bipush (v := (12 : Int32)) C dX10_read_17 rfl ?_
      obtain ⟨r8, σ7, e9, hF⟩ := bd_e hF
      refine r_callS_i (as := [vI a4, vI (0 : Int32), vI (12 : Int32)]) (st := []) C dX10_read_19 (s_X10_within G l e9) t_2_143 t_2_144 t_1_1 t_2_145 m_X10_within ⟨Nat.le_of_ble_eq_true rfl, Nat.le_of_ble_eq_true rfl⟩ ⟨rfl, rfl⟩ ⟨Nat.zero_le _, Nat.zero_le _⟩ rfl (Nat.le_of_ble_eq_true rfl) ?_
      refine r_if_ne C 27 dX10_read_22 (by decide)  (fun h46 => ?_) (fun h46 => ?_)
      · have hF := if_f h46 hF
        refine r_aload_n C 0 0 dX10_read_27 rfl rfl ?_
        refine r_getR (kf := 11) (d2 := (25, 0, 0)) C dX10_read_28 rfl rfl f_X10 (by decide) t_2_106 rfl rfl ?_
        refine r_iload_n C 1 1 dX10_read_31 rfl rfl ?_
        obtain ⟨h10, hF⟩ := ck_e hF
        refine r_aaload (cA := 0) (d2 := (26, (a1.toNatClampNeg), 0)) C dX10_read_32 rfl rfl h10 rfl ?_
        refine r_astore (ls2 := [(5, vR (26, (a1.toNatClampNeg), 0)), (0, vR (0, 0, 0)), (1, vI a1), (2, vI a2), (3, vI a3), (4, vI a4)]) C dX10_read_33 (by decide) rfl ?_
        refine r_aload_n C 1 0 dX10_read_35 rfl rfl ?_
        refine r_getR (kf := 5) (d2 := (7, 0, 0)) C dX10_read_36 rfl rfl f_X10 (by decide) t_2_100 rfl rfl ?_
        refine r_getI (kf := 2) C dX10_read_39 rfl rfl f_X6 (by decide) t_1_159 rfl ?_
        obtain ⟨x11, ex11, hF⟩ := nam_e hF
        refine r_topI ex11 ?_
        refine r_istore (ls2 := [(6, vI x11), (5, vR (26, (a1.toNatClampNeg), 0)), (0, vR (0, 0, 0)), (1, vI a1), (2, vI a2), (3, vI a3), (4, vI a4)]) C dX10_read_42 (by decide) rfl ?_
        refine r_aload_n C 2 0 dX10_read_44 rfl rfl ?_
        refine r_getR (kf := 5) (d2 := (7, 0, 0)) C dX10_read_45 rfl rfl f_X10 (by decide) t_2_100 rfl rfl ?_
        refine r_getI (kf := 10) C dX10_read_48 rfl rfl f_X6 (by decide) t_1_175 rfl ?_
        obtain ⟨x12, ex12, hF⟩ := nam_e hF
        refine r_topI ex12 ?_
        refine r_istore (ls2 := [(7, vI x12), (6, vI x11), (5, vR (26, (a1.toNatClampNeg), 0)), (0, vR (0, 0, 0)), (1, vI a1), (2, vI a2), (3, vI a3), (4, vI a4)]) C dX10_read_51 (by decide) rfl ?_
        refine r_iconst (v := (0 : Int32)) C dX10_read_53 rfl ?_
        refine r_istore (ls2 := [(8, vI (0 : Int32)), (7, vI x12), (6, vI x11), (5, vR (26, (a1.toNatClampNeg), 0)), (0, vR (0, 0, 0)), (1, vI a1), (2, vI a2), (3, vI a3), (4, vI a4)]) C dX10_read_54 (by decide) rfl ?_
        refine r_iconst (v := (0 : Int32)) C dX10_read_56 rfl ?_
        refine r_istore (ls2 := [(9, vI (0 : Int32)), (8, vI (0 : Int32)), (7, vI x12), (6, vI x11), (5, vR (26, (a1.toNatClampNeg), 0)), (0, vR (0, 0, 0)), (1, vI a1), (2, vI a2), (3, vI a3), (4, vI a4)]) C dX10_read_57 (by decide) rfl ?_
        refine r_iconst (v := (0 : Int32)) C dX10_read_59 rfl ?_
        refine r_istore (ls2 := [(10, vI (0 : Int32)), (9, vI (0 : Int32)), (8, vI (0 : Int32)), (7, vI x12), (6, vI x11), (5, vR (26, (a1.toNatClampNeg), 0)), (0, vR (0, 0, 0)), (1, vI a1), (2, vI a2), (3, vI a3), (4, vI a4)]) C dX10_read_60 (by decide) rfl ?_
        refine r_drop (ls2 := [(0, vR (0, 0, 0)), (2, vI a2), (3, vI a3), (4, vI a4), (5, vR (26, (a1.toNatClampNeg), 0)), (6, vI x11), (7, vI x12), (8, vI (0 : Int32)), (9, vI (0 : Int32)), (10, vI (0 : Int32))]) [6, 8, 9, 10, 5, 4, 3, 2, 1, 0] rfl ?_
        refine l_X10_read_62 C a2 a3 a4 (a1.toNatClampNeg) x11 x12 _ ?_ _ ?_ _ _ _ _ _ hF
        · intro y37 y38 σ36 hF
          refine r_aload_n C 0 0 dX10_read_134 rfl rfl ?_
          refine r_getR (kf := 5) (d2 := (7, 0, 0)) C dX10_read_135 rfl rfl f_X10 (by decide) t_2_100 rfl rfl ?_
          refine r_iload C 1 dX10_read_138 rfl ?_
          obtain ⟨σ39, eσ39, hF⟩ := nam_e hF
          refine r_put (kf := 2) (ty0 := tyX6) C dX10_read_140 rfl rfl f_X6 tyX6_ok nmX6 (by decide) t_1_159 rfl rfl rfl rfl eσ39 ?_
          refine r_aload_n C 0 0 dX10_read_143 rfl rfl ?_
          refine r_getR (kf := 5) (d2 := (7, 0, 0)) C dX10_read_144 rfl rfl f_X10 (by decide) t_2_100 rfl rfl ?_
          refine r_iload C 2 dX10_read_147 rfl ?_
          obtain ⟨σ40, eσ40, hF⟩ := nam_e hF
          refine r_put (kf := 10) (ty0 := tyX6) C dX10_read_149 rfl rfl f_X6 tyX6_ok nmX6 (by decide) t_1_175 rfl rfl rfl rfl eσ40 ?_
          refine r_iload C 4 dX10_read_152 rfl ?_
          refine r_bipush (v := (-3 : Int32)) C dX10_read_154 rfl ?_
          refine r_icmp_ne C 164 dX10_read_156 (by decide)  (fun h41 => ?_) (fun h41 => ?_)
          · have hF := if_f h41 hF
            refine r_bipush (v := (-20 : Int32)) C dX10_read_164 rfl ?_
            refine r_iload C 3 dX10_read_166 rfl ?_
            refine r_isub C dX10_read_168 ?_
            exact r_ireturn C dX10_read_169 (rt_e hF)
          · have hF := if_t h41 hF
            refine r_bipush (v := (-3 : Int32)) C dX10_read_159 rfl ?_
            refine r_goto C 169 dX10_read_161 (by decide) ?_
            exact r_ireturn C dX10_read_169 (rt_e hF)
        · intro y43 y44 σ42 hF
          refine r_aload_n C 0 0 dX10_read_179 rfl rfl ?_
          refine r_iload C 2 dX10_read_180 rfl ?_
          obtain ⟨σ45, eσ45, hF⟩ := nam_e hF
          refine r_put (kf := 12) (ty0 := tyX10) C dX10_read_182 rfl rfl f_X10 tyX10_ok nmX10 (by decide) t_2_107 rfl rfl rfl rfl eσ45 ?_
          refine r_iload C 1 dX10_read_185 rfl ?_
          exact r_ireturn C dX10_read_187 (rt_e hF)
      · have hF := if_t h46 hF
        refine r_iconst (v := (-1 : Int32)) C dX10_read_25 rfl ?_
        exact r_ireturn C dX10_read_26 (rt_e hF)
