def L_X10_hot_44 (c1 : Int32) (c2 : Int32) (c3 : Int32) (c4 : Int32) : Nat → Int32 → Int32 → Int32 → Int32 → St → (Int32 → Int32 → Int32 → St → Option (Int32 × St)) → Option (Int32 × St)
  | 0, _, _, _, _, _, _ => none
  | n + 1, v5, v6, v7, v8, τ, kx95 =>
  (if (99 : Int32) < v8 then kx95 v5 v6 v7 τ else bd (F_X5_lifeOf 0 c1 v8 c3 τ) fun r11 σ10 => nam (fun (y13 : Int32) (y14 : Int32) (y15 : Int32) (σ17 : St) => nam (v8 + (1 : Int32)) fun x18 => L_X10_hot_44 c1 c2 c3 c4 n y13 y14 y15 x18 σ17 kx95) fun k16 => (if r11 = c2 then nam (v5 + (1 : Int32)) fun x19 => nam (fun (y20 : Int32) (σ22 : St) => k16 x19 y20 v8 σ22) fun k21 => (if v6 = (-4 : Int32) then k21 v8 σ10 else k21 v6 σ10) else k16 v5 v6 v7 σ10))
def F_X10_hot (a1 : Int32) (a2 : Int32) (a3 : Int32) (a4 : Int32) (σ : St) : Option (Int32 × St) :=
  bd (F_X10_isSize a1 σ) fun r2 σ1 => (if r2 = 0 then some ((-1 : Int32), σ1) else bd (F_X10_within a2 (0 : Int32) (999 : Int32) σ1) fun r5 σ4 => (if r5 = 0 then some ((-1 : Int32), σ4) else bd (F_X10_within a4 (0 : Int32) (2 : Int32) σ4) fun r8 σ7 => (if r8 = 0 then some ((-1 : Int32), σ7) else L_X10_hot_44 a1 a2 a3 a4 FU (0 : Int32) (-4 : Int32) (-4 : Int32) (0 : Int32) σ7 (fun (y27 : Int32) (y28 : Int32) (y29 : Int32) (σ26 : St) => (if a4 = 0 then some (y27, σ26) else (if a4 = (1 : Int32) then some (y28, σ26) else some (y29, σ26)))))))
set_option maxRecDepth 20000 in
set_option maxHeartbeats 4000000 in
theorem l_X10_hot_44 {G : Gx} {p : Program} {l : Launch} {e : Env} {s : State} {m : MethodId} {args : Array Value} {below : List Frame} {meth : Method} {c : Code} (C : Cx G p s m args meth c (some .int) 9 RX10 cX10_hot) (c1 : Int32) (c2 : Int32) (c3 : Int32) (c4 : Int32) {σ' : St} {r : Int32} (kx95 : Int32 → Int32 → Int32 → St → Option (Int32 × St)) (hkx95 : ∀ (w5 : Int32) (w6 : Int32) (w7 : Int32) (τ : St), kx95 w5 w6 w7 τ = some (r, σ') → Rt G p l e (lvl 5) s m args below meth c 0 0 (MQ below (va_Qi (fun a b => a = r ∧ b = σ') (Wd G) (AG G)) args s 0 0 (AG G)) 9 95 [(4, vI c4), (5, vI w5), (6, vI w6), (7, vI w7)] [] τ) : ∀ (n : Nat) (v5 : Int32) (v6 : Int32) (v7 : Int32) (v8 : Int32) (τ : St), L_X10_hot_44 c1 c2 c3 c4 n v5 v6 v7 v8 τ kx95 = some (r, σ') → Rt G p l e (lvl 5) s m args below meth c 0 0 (MQ below (va_Qi (fun a b => a = r ∧ b = σ') (Wd G) (AG G)) args s 0 0 (AG G)) 9 44 [(0, vR (0, 0, 0)), (1, vI c1), (2, vI c2), (3, vI c3), (4, vI c4), (5, vI v5), (6, vI v6), (7, vI v7), (8, vI v8)] [] τ := by
  intro n
  induction n with
  | zero => intro v5 v6 v7 v8 τ hF; cases hF
  | succ n ih =>
    intro v5 v6 v7 v8 τ hF
    unfold L_X10_hot_44 at hF
    refine r_iload C 8 dX10_hot_44 rfl ?_
    refine r_bipush (v := (99 : Int32)) C dX10_hot_46 rfl ?_
    refine r_icmp_gt C 95 dX10_hot_48 (by decide)  (fun h25 => ?_) (fun h25 => ?_)
    · have hF := if_t h25 hF
      refine r_drop (ls2 := [(4, vI c4), (5, vI v5), (6, vI v6), (7, vI v7)]) [4, 5, 6, 7] rfl ?_
      exact hkx95 _ _ _ _ hF
    · have hF := if_f h25 hF
      refine r_aload_n C 0 0 dX10_hot_51 rfl rfl ?_
      refine r_getR (kf := 3) (d2 := (3, 0, 0)) C dX10_hot_52 rfl rfl f_X10 (by decide) t_2_99 rfl rfl ?_
      refine r_iload_n C 1 1 dX10_hot_55 rfl rfl ?_
      refine r_iload C 8 dX10_hot_56 rfl ?_
      refine r_iload_n C 3 3 dX10_hot_58 rfl rfl ?_
      obtain ⟨r11, σ10, e12, hF⟩ := bd_e hF
      refine r_callV_i (as := [vI c1, vI v8, vI c3]) (st := []) C dX10_hot_59 (s_X5_lifeOf G l e12) rfl rfl rfl t_4_118 t_4_119 t_4_120 t_1_3 t_4_121 m_X5_lifeOf ⟨Nat.le_of_ble_eq_true rfl, Nat.le_of_ble_eq_true rfl⟩ ⟨rfl, rfl⟩ ⟨Nat.zero_le _, Nat.zero_le _⟩ rfl (Nat.le_of_ble_eq_true rfl) ?_
      refine r_iload_n C 2 2 dX10_hot_62 rfl rfl ?_
      obtain ⟨k16, ek16, hF⟩ := nam_e hF
      have hk16 : ∀ (y13 : Int32) (y14 : Int32) (y15 : Int32) (σ17 : St), k16 y13 y14 y15 σ17 = some (r, σ') → Rt G p l e (lvl 5) s m args below meth c 0 0 (MQ below (va_Qi (fun a b => a = r ∧ b = σ') (Wd G) (AG G)) args s 0 0 (AG G)) 9 89 [(0, vR (0, 0, 0)), (1, vI c1), (2, vI c2), (3, vI c3), (4, vI c4), (5, vI y13), (6, vI y14), (7, vI y15), (8, vI v8)] [] σ17 := by
        intro y13 y14 y15 σ17 hF
        subst ek16
        obtain ⟨x18, ex18, hF⟩ := nam_e hF
        refine r_iinc (v := x18) (ls2 := [(8, vI x18), (0, vR (0, 0, 0)), (1, vI c1), (2, vI c2), (3, vI c3), (4, vI c4), (5, vI y13), (6, vI y14), (7, vI y15)]) C 8 dX10_hot_89 rfl ex18.symm (by decide) rfl ?_
        refine r_goto C 44 dX10_hot_92 (by decide) ?_
        refine r_drop (ls2 := [(0, vR (0, 0, 0)), (1, vI c1), (2, vI c2), (3, vI c3), (4, vI c4), (5, vI y13), (6, vI y14), (7, vI y15), (8, vI x18)]) [1, 2, 3, 4, 5, 6, 7, 8, 0] rfl ?_
        exact ih _ _ _ _ _ hF
      refine r_icmp_ne C 89 dX10_hot_63 (by decide)  (fun h24 => ?_) (fun h24 => ?_)
      · have hF := if_f h24 hF
        exact hk16 _ _ _ _ hF
      · have hF := if_t h24 hF
        obtain ⟨x19, ex19, hF⟩ := nam_e hF
        refine r_iinc (v := x19) (ls2 := [(5, vI x19), (0, vR (0, 0, 0)), (1, vI c1), (2, vI c2), (3, vI c3), (4, vI c4), (6, vI v6), (7, vI v7), (8, vI v8)]) C 5 dX10_hot_66 rfl ex19.symm (by decide) rfl ?_
        refine r_iload C 6 dX10_hot_69 rfl ?_
        refine r_bipush (v := (-4 : Int32)) C dX10_hot_71 rfl ?_
        obtain ⟨k21, ek21, hF⟩ := nam_e hF
        have hk21 : ∀ (y20 : Int32) (σ22 : St), k21 y20 σ22 = some (r, σ') → Rt G p l e (lvl 5) s m args below meth c 0 0 (MQ below (va_Qi (fun a b => a = r ∧ b = σ') (Wd G) (AG G)) args s 0 0 (AG G)) 9 83 [(0, vR (0, 0, 0)), (1, vI c1), (2, vI c2), (3, vI c3), (4, vI c4), (5, vI x19), (8, vI v8)] [vI y20] σ22 := by
          intro y20 σ22 hF
          subst ek21
          refine r_istore (ls2 := [(6, vI y20), (0, vR (0, 0, 0)), (1, vI c1), (2, vI c2), (3, vI c3), (4, vI c4), (5, vI x19), (8, vI v8)]) C dX10_hot_83 (by decide) rfl ?_
          refine r_iload C 7 dX10_hot_85 rfl ?_
          refine r_istore (ls2 := [(7, vI v8), (6, vI y20), (0, vR (0, 0, 0)), (1, vI c1), (2, vI c2), (3, vI c3), (4, vI c4), (5, vI x19), (8, vI v8)]) C dX10_hot_87 (by decide) rfl ?_
          refine r_drop (ls2 := [(0, vR (0, 0, 0)), (1, vI c1), (2, vI c2), (3, vI c3), (4, vI c4), (5, vI x19), (6, vI y20), (7, vI v8), (8, vI v8)]) [2, 3, 4, 5, 6, 7, 1, 0, 8] rfl ?_
          exact hk16 _ _ _ _ hF
        refine r_icmp_ne C 81 dX10_hot_73 (by decide)  (fun h23 => ?_) (fun h23 => ?_)
        · have hF := if_f h23 hF
          refine r_iload C 6 dX10_hot_81 rfl ?_
          refine r_drop (ls2 := [(0, vR (0, 0, 0)), (1, vI c1), (2, vI c2), (3, vI c3), (4, vI c4), (5, vI x19), (8, vI v8)]) [1, 2, 3, 4, 5, 0, 8] rfl ?_
          exact hk21 _ _ hF
        · have hF := if_t h23 hF
          refine r_iload C 8 dX10_hot_76 rfl ?_
          refine r_goto C 83 dX10_hot_78 (by decide) ?_
          refine r_drop (ls2 := [(0, vR (0, 0, 0)), (1, vI c1), (2, vI c2), (3, vI c3), (4, vI c4), (5, vI x19), (8, vI v8)]) [1, 2, 3, 4, 5, 0, 8] rfl ?_
          exact hk21 _ _ hF
set_option maxRecDepth 20000 in
set_option maxHeartbeats 4000000 in
theorem s_X10_hot (G : Gx) (l : Launch) {a1 : Int32} {a2 : Int32} {a3 : Int32} {a4 : Int32} {σ σ' : St} {r : Int32} (hF : F_X10_hot a1 a2 a3 a4 σ = some (r, σ')) : Sp G l yX10_hot cX10_hot 9 (some .int) (lvl 5) [vR (0, 0, 0), vI a1, vI a2, vI a3, vI a4] σ (va_Qi (fun a b => a = r ∧ b = σ') (Wd G) (AG G)) := by
  refine Sp_of (own := RX10) (by decide) rfl (Nat.le_of_ble_eq_true rfl) ?_
  intro p e s m args below meth c C
  show Rt G p l e (lvl 5) s m args below meth c 0 0 (MQ below (va_Qi (fun a b => a = r ∧ b = σ') (Wd G) (AG G)) args s 0 0 (AG G)) 9 0 [(0, vR (0, 0, 0)), (1, vI a1), (2, vI a2), (3, vI a3), (4, vI a4)] [] σ
  unfold F_X10_hot at hF
  refine r_iload_n C 1 1 dX10_hot_0 rfl rfl ?_
  obtain ⟨r2, σ1, e3, hF⟩ := bd_e hF
  refine r_callS_i (as := [vI a1]) (st := []) C dX10_hot_1 (s_X10_isSize G l e3) t_3_155 t_3_156 t_1_1 t_3_157 m_X10_isSize ⟨Nat.le_of_ble_eq_true rfl, Nat.le_of_ble_eq_true rfl⟩ ⟨rfl, rfl⟩ ⟨Nat.zero_le _, Nat.zero_le _⟩ rfl (Nat.le_of_ble_eq_true rfl) ?_
  refine r_if_eq C 28 dX10_hot_4 (by decide)  (fun h34 => ?_) (fun h34 => ?_)
  · have hF := if_t h34 hF
    refine r_iconst (v := (-1 : Int32)) C dX10_hot_28 rfl ?_
    exact r_ireturn C dX10_hot_29 (rt_e hF)
  · have hF := if_f h34 hF
    refine r_iload_n C 2 2 dX10_hot_7 rfl rfl ?_
    refine r_iconst (v := (0 : Int32)) C dX10_hot_8 rfl ?_
    refine r_sipush (v := (999 : Int32)) C dX10_hot_9 rfl ?_
    obtain ⟨r5, σ4, e6, hF⟩ := bd_e hF
    refine r_callS_i (as := [vI a2, vI (0 : Int32), vI (999 : Int32)]) (st := []) C dX10_hot_12 (s_X10_within G l e6) t_2_141 t_2_142 t_1_1 t_2_143 m_X10_within ⟨Nat.le_of_ble_eq_true rfl, Nat.le_of_ble_eq_true rfl⟩ ⟨rfl, rfl⟩ ⟨Nat.zero_le _, Nat.zero_le _⟩ rfl (Nat.le_of_ble_eq_true rfl) ?_
    refine r_if_eq C 28 dX10_hot_15 (by decide)  (fun h33 => ?_) (fun h33 => ?_)
    · have hF := if_t h33 hF
      refine r_iconst (v := (-1 : Int32)) C dX10_hot_28 rfl ?_
      exact r_ireturn C dX10_hot_29 (rt_e hF)
    · have hF := if_f h33 hF
      refine r_iload C 4 dX10_hot_18 rfl ?_
      refine r_iconst (v := (0 : Int32)) C dX10_hot_20 rfl ?_
      refine r_iconst (v := (2 : Int32)) C dX10_hot_21 rfl ?_
      obtain ⟨r8, σ7, e9, hF⟩ := bd_e hF
      refine r_callS_i (as := [vI a4, vI (0 : Int32), vI (2 : Int32)]) (st := []) C dX10_hot_22 (s_X10_within G l e9) t_2_141 t_2_142 t_1_1 t_2_143 m_X10_within ⟨Nat.le_of_ble_eq_true rfl, Nat.le_of_ble_eq_true rfl⟩ ⟨rfl, rfl⟩ ⟨Nat.zero_le _, Nat.zero_le _⟩ rfl (Nat.le_of_ble_eq_true rfl) ?_
      refine r_if_ne C 30 dX10_hot_25 (by decide)  (fun h32 => ?_) (fun h32 => ?_)
      · have hF := if_f h32 hF
        refine r_iconst (v := (0 : Int32)) C dX10_hot_30 rfl ?_
        refine r_istore (ls2 := [(5, vI (0 : Int32)), (0, vR (0, 0, 0)), (1, vI a1), (2, vI a2), (3, vI a3), (4, vI a4)]) C dX10_hot_31 (by decide) rfl ?_
        refine r_bipush (v := (-4 : Int32)) C dX10_hot_33 rfl ?_
        refine r_istore (ls2 := [(6, vI (-4 : Int32)), (5, vI (0 : Int32)), (0, vR (0, 0, 0)), (1, vI a1), (2, vI a2), (3, vI a3), (4, vI a4)]) C dX10_hot_35 (by decide) rfl ?_
        refine r_bipush (v := (-4 : Int32)) C dX10_hot_37 rfl ?_
        refine r_istore (ls2 := [(7, vI (-4 : Int32)), (6, vI (-4 : Int32)), (5, vI (0 : Int32)), (0, vR (0, 0, 0)), (1, vI a1), (2, vI a2), (3, vI a3), (4, vI a4)]) C dX10_hot_39 (by decide) rfl ?_
        refine r_iconst (v := (0 : Int32)) C dX10_hot_41 rfl ?_
        refine r_istore (ls2 := [(8, vI (0 : Int32)), (7, vI (-4 : Int32)), (6, vI (-4 : Int32)), (5, vI (0 : Int32)), (0, vR (0, 0, 0)), (1, vI a1), (2, vI a2), (3, vI a3), (4, vI a4)]) C dX10_hot_42 (by decide) rfl ?_
        refine r_drop (ls2 := [(0, vR (0, 0, 0)), (1, vI a1), (2, vI a2), (3, vI a3), (4, vI a4), (5, vI (0 : Int32)), (6, vI (-4 : Int32)), (7, vI (-4 : Int32)), (8, vI (0 : Int32))]) [4, 5, 6, 7, 8, 3, 2, 1, 0] rfl ?_
        refine l_X10_hot_44 C a1 a2 a3 a4 _ ?_ _ _ _ _ _ _ hF
        · intro y27 y28 y29 σ26 hF
          refine r_iload C 0 dX10_hot_95 rfl ?_
          refine r_if_ne C 105 dX10_hot_97 (by decide)  (fun h31 => ?_) (fun h31 => ?_)
          · have hF := if_f h31 hF
            refine r_iload C 0 dX10_hot_105 rfl ?_
            refine r_iconst (v := (1 : Int32)) C dX10_hot_107 rfl ?_
            refine r_icmp_ne C 116 dX10_hot_108 (by decide)  (fun h30 => ?_) (fun h30 => ?_)
            · have hF := if_f h30 hF
              refine r_iload C 3 dX10_hot_116 rfl ?_
              exact r_ireturn C dX10_hot_118 (rt_e hF)
            · have hF := if_t h30 hF
              refine r_iload C 2 dX10_hot_111 rfl ?_
              refine r_goto C 118 dX10_hot_113 (by decide) ?_
              exact r_ireturn C dX10_hot_118 (rt_e hF)
          · have hF := if_t h31 hF
            refine r_iload C 1 dX10_hot_100 rfl ?_
            refine r_goto C 118 dX10_hot_102 (by decide) ?_
            exact r_ireturn C dX10_hot_118 (rt_e hF)
      · have hF := if_t h32 hF
        refine r_iconst (v := (-1 : Int32)) C dX10_hot_28 rfl ?_
        exact r_ireturn C dX10_hot_29 (rt_e hF)
def L_J7_fill_d0a16_t19_6 (q0 : Nat) (c1 : Int64) (c4 : Int32) : Nat → Int32 → St → Option (Unit × St)
  | 0, _, _ => none
  | n + 1, v3, τ =>
  (if c4 ≤ v3 then some ((), τ) else ck (inb v3 96) (nam (uL τ (19, q0, 0) (v3.toNatClampNeg) c1) fun σ2 => nam (v3 + (1 : Int32)) fun x3 => L_J7_fill_d0a16_t19_6 q0 c1 c4 n x3 σ2))
def F_J7_fill_d0a16_t19 (q0 : Nat) (a1 : Int64) (σ : St) : Option (Unit × St) :=
  L_J7_fill_d0a16_t19_6 q0 a1 (96 : Int32) FU (0 : Int32) σ 
set_option maxRecDepth 20000 in
set_option maxHeartbeats 4000000 in
theorem l_J7_fill_d0a16_t19_6 {G : Gx} {p : Program} {l : Launch} {e : Env} {s : State} {m : MethodId} {args : Array Value} {below : List Frame} {meth : Method} {c : Code} (C : Cx G p s m args meth c none 5 RJ7 cJ7_fill_d0a16) (q0 : Nat) (c1 : Int64) (c4 : Int32) {σ' : St}  : ∀ (n : Nat) (v3 : Int32) (τ : St), L_J7_fill_d0a16_t19_6 q0 c1 c4 n v3 τ = some ((), σ') → Rt G p l e (lvl 0) s m args below meth c 0 0 (MQ below (va_Qv (fun b => b = σ') (Wd G) (AG G)) args s 0 0 (AG G)) 5 6 [(0, vR (19, q0, 0)), (1, vL c1), (3, vI v3), (4, vI c4)] [] τ := by
  intro n
  induction n with
  | zero => intro v3 τ hF; cases hF
  | succ n ih =>
    intro v3 τ hF
    unfold L_J7_fill_d0a16_t19_6 at hF
    refine r_iload_n C 2 3 dJ7_fill_d0a16_6 rfl rfl ?_
    refine r_iload C 3 dJ7_fill_d0a16_7 rfl ?_
    refine r_icmp_ge C 22 dJ7_fill_d0a16_9 (by decide)  (fun h4 => ?_) (fun h4 => ?_)
    · have hF := if_t h4 hF
      exact r_return C dJ7_fill_d0a16_22 (rv_e hF)
    · have hF := if_f h4 hF
      refine r_aload_n C 0 0 dJ7_fill_d0a16_12 rfl rfl ?_
      refine r_iload_n C 2 3 dJ7_fill_d0a16_13 rfl rfl ?_
      refine r_lload_n C 1 1 dJ7_fill_d0a16_14 rfl rfl ?_
      obtain ⟨h1, hF⟩ := ck_e hF
      obtain ⟨σ2, eσ2, hF⟩ := nam_e hF
      refine r_lastore C (v3.toNatClampNeg) dJ7_fill_d0a16_15 rfl h1 rfl eσ2 ?_
      obtain ⟨x3, ex3, hF⟩ := nam_e hF
      refine r_iinc (v := x3) (ls2 := [(3, vI x3), (0, vR (19, q0, 0)), (1, vL c1), (4, vI c4)]) C 2 dJ7_fill_d0a16_16 rfl ex3.symm (by decide) rfl ?_
      refine r_goto C 6 dJ7_fill_d0a16_19 (by decide) ?_
      refine r_drop (ls2 := [(0, vR (19, q0, 0)), (1, vL c1), (3, vI x3), (4, vI c4)]) [1, 2, 0, 3] rfl ?_
      exact ih _ _ hF
set_option maxRecDepth 20000 in
set_option maxHeartbeats 4000000 in
theorem s_J7_fill_d0a16_t19 (G : Gx) (l : Launch) {q0 : Nat} {a1 : Int64} {σ σ' : St}  (hF : F_J7_fill_d0a16_t19 q0 a1 σ = some ((), σ')) : Sp G l yJ7_fill_d0a16 cJ7_fill_d0a16 5 none (lvl 0) [vR (19, q0, 0), vL a1] σ (va_Qv (fun b => b = σ') (Wd G) (AG G)) := by
  refine Sp_of (own := RJ7) (by decide) rfl (Nat.le_of_ble_eq_true rfl) ?_
  intro p e s m args below meth c C
  show Rt G p l e (lvl 0) s m args below meth c 0 0 (MQ below (va_Qv (fun b => b = σ') (Wd G) (AG G)) args s 0 0 (AG G)) 5 0 [(0, vR (19, q0, 0)), (1, vL a1)] [] σ
  unfold F_J7_fill_d0a16_t19 at hF
  refine r_iconst (v := (0 : Int32)) C dJ7_fill_d0a16_0 rfl ?_
  refine r_istore_n (ls2 := [(3, vI (0 : Int32)), (0, vR (19, q0, 0)), (1, vL a1)]) C dJ7_fill_d0a16_1 3 rfl (by decide) rfl ?_
  refine r_aload_n C 1 0 dJ7_fill_d0a16_2 rfl rfl ?_
  refine r_alenJ (v := (96 : Int32)) C dJ7_fill_d0a16_3 rfl rfl ?_
  refine r_istore (ls2 := [(4, vI (96 : Int32)), (3, vI (0 : Int32)), (0, vR (19, q0, 0)), (1, vL a1)]) C dJ7_fill_d0a16_4 (by decide) rfl ?_
  refine r_drop (ls2 := [(0, vR (19, q0, 0)), (1, vL a1), (3, vI (0 : Int32)), (4, vI (96 : Int32))]) [2, 3, 1, 0] rfl ?_
  refine l_J7_fill_d0a16_t19_6 C q0 a1 (96 : Int32)  _ _ _ hF
def F_X4_takeOut (a1 : Int32) (σ : St) : Option (Int64 × St) :=
  ck (inb a1 96) (nam (σ.2 (19, 0, 0) (a1.toNatClampNeg)) fun x2 => ck (inb a1 96) (nam (uL σ (19, 0, 0) (a1.toNatClampNeg) (0 : Int64)) fun σ4 => some (x2, σ4)))
set_option maxRecDepth 20000 in
set_option maxHeartbeats 4000000 in
theorem s_X4_takeOut (G : Gx) (l : Launch) {a1 : Int32} {σ σ' : St} {r : Int64} (hF : F_X4_takeOut a1 σ = some (r, σ')) : Sp G l yX4_takeOut cX4_takeOut 4 (some .long) (lvl 0) [vR (18, 0, 0), vI a1] σ (va_Ql (fun a b => a = r ∧ b = σ') (Wd G) (AG G)) := by
  refine Sp_of (own := RX4) (by decide) rfl (Nat.le_of_ble_eq_true rfl) ?_
  intro p e s m args below meth c C
  show Rt G p l e (lvl 0) s m args below meth c 0 0 (MQ below (va_Ql (fun a b => a = r ∧ b = σ') (Wd G) (AG G)) args s 0 0 (AG G)) 4 0 [(0, vR (18, 0, 0)), (1, vI a1)] [] σ
  unfold F_X4_takeOut at hF
  refine r_aload_n C 0 0 dX4_takeOut_0 rfl rfl ?_
  refine r_getR (kf := 0) (d2 := (19, 0, 0)) C dX4_takeOut_1 rfl rfl f_X4 (by decide) t_2_30 rfl rfl ?_
  refine r_iload_n C 1 1 dX4_takeOut_4 rfl rfl ?_
  obtain ⟨h1, hF⟩ := ck_e hF
  refine r_laload C (a1.toNatClampNeg) dX4_takeOut_5 rfl h1 rfl ?_
  obtain ⟨x2, ex2, hF⟩ := nam_e hF
  refine r_topL ex2 ?_
  refine r_lstore_n (ls2 := [(2, vL x2), (0, vR (18, 0, 0)), (1, vI a1)]) C dX4_takeOut_6 2 rfl (by decide) rfl ?_
  refine r_aload_n C 1 0 dX4_takeOut_7 rfl rfl ?_
  refine r_getR (kf := 0) (d2 := (19, 0, 0)) C dX4_takeOut_8 rfl rfl f_X4 (by decide) t_2_30 rfl rfl ?_
  refine r_iload_n C 2 1 dX4_takeOut_11 rfl rfl ?_
  refine r_lconst (v := (0 : Int64)) C dX4_takeOut_12 rfl ?_
  obtain ⟨h3, hF⟩ := ck_e hF
  obtain ⟨σ4, eσ4, hF⟩ := nam_e hF
  refine r_lastore C (a1.toNatClampNeg) dX4_takeOut_13 rfl h3 rfl eσ4 ?_
  refine r_lload_n C 0 2 dX4_takeOut_14 rfl rfl ?_
  exact r_lreturn C dX4_takeOut_15 (rt_e hF)
def F_X4_rolledTo (q0 : Nat) (a1 : Int32) (a2 : Int32) (σ : St) : Option (Int32 × St) :=
  bd (F_X6_kindAt q0 a1 σ) fun r2 σ1 => (if r2 = (6 : Int32) then some (a1, σ1) else bd (F_X10_isWay r2 σ1) fun r5 σ4 => nam (fun (y7 : Int32) (σ9 : St) => bd (F_X10_nextCell a1 y7 σ9) fun r11 σ10 => bd (F_X6_kindAt q0 r11 σ10) fun r14 σ13 => (if r14 = (5 : Int32) then some (a1, σ13) else some (r11, σ13))) fun k8 => (if r5 = 0 then k8 a2 σ4 else k8 r2 σ4))
set_option maxRecDepth 20000 in
set_option maxHeartbeats 4000000 in
theorem s_X4_rolledTo (G : Gx) (l : Launch) {q0 : Nat} {a1 : Int32} {a2 : Int32} {σ σ' : St} {r : Int32} (hF : F_X4_rolledTo q0 a1 a2 σ = some (r, σ')) : Sp G l yX4_rolledTo cX4_rolledTo 5 (some .int) (lvl 1) [vR (7, q0, 0), vI a1, vI a2] σ (va_Qi (fun a b => a = r ∧ b = σ') (Wd G) (AG G)) := by
  refine Sp_of (own := RX4) (by decide) rfl (Nat.le_of_ble_eq_true rfl) ?_
  intro p e s m args below meth c C
  show Rt G p l e (lvl 1) s m args below meth c 0 0 (MQ below (va_Qi (fun a b => a = r ∧ b = σ') (Wd G) (AG G)) args s 0 0 (AG G)) 5 0 [(0, vR (7, q0, 0)), (1, vI a1), (2, vI a2)] [] σ
  unfold F_X4_rolledTo at hF
  refine r_aload_n C 0 0 dX4_rolledTo_0 rfl rfl ?_
  refine r_iload_n C 1 1 dX4_rolledTo_1 rfl rfl ?_
  obtain ⟨r2, σ1, e3, hF⟩ := bd_e hF
  refine r_callV_i (as := [vI a1]) (st := []) C dX4_rolledTo_2 (s_X6_kindAt G l e3) rfl rfl rfl t_4_183 t_3_122 t_3_123 t_1_5 t_3_124 m_X6_kindAt ⟨Nat.le_of_ble_eq_true rfl, Nat.le_of_ble_eq_true rfl⟩ ⟨rfl, rfl⟩ ⟨Nat.zero_le _, Nat.zero_le _⟩ rfl (Nat.le_of_ble_eq_true rfl) ?_
  refine r_istore_n (ls2 := [(3, vI r2), (0, vR (7, q0, 0)), (1, vI a1), (2, vI a2)]) C dX4_rolledTo_5 3 rfl (by decide) rfl ?_
  refine r_iload_n C 0 3 dX4_rolledTo_6 rfl rfl ?_
  refine r_bipush (v := (6 : Int32)) C dX4_rolledTo_7 rfl ?_
  refine r_icmp_ne C 14 dX4_rolledTo_9 (by decide)  (fun h18 => ?_) (fun h18 => ?_)
  · have hF := if_f h18 hF
    refine r_iload_n C 2 1 dX4_rolledTo_14 rfl rfl ?_
    refine r_iload_n C 0 3 dX4_rolledTo_15 rfl rfl ?_
    obtain ⟨r5, σ4, e6, hF⟩ := bd_e hF
    refine r_callN_i (as := [vI r2]) (st := [vI a1]) C dX4_rolledTo_16 (s_X10_isWay G l e6) (by decide) t_3_159 t_1_1 t_3_160 m_X10_isWay ⟨Nat.le_of_ble_eq_true rfl, Nat.le_of_ble_eq_true rfl⟩ ⟨rfl, rfl⟩ ⟨Nat.zero_le _, Nat.zero_le _⟩ rfl (Nat.le_of_ble_eq_true rfl) ?_
    obtain ⟨k8, ek8, hF⟩ := nam_e hF
    have hk8 : ∀ (y7 : Int32) (σ9 : St), k8 y7 σ9 = some (r, σ') → Rt G p l e (lvl 1) s m args below meth c 0 0 (MQ below (va_Qi (fun a b => a = r ∧ b = σ') (Wd G) (AG G)) args s 0 0 (AG G)) 5 27 [(0, vR (7, q0, 0)), (1, vI a1)] [vI y7, vI a1] σ9 := by
      intro y7 σ9 hF
      subst ek8
      obtain ⟨r11, σ10, e12, hF⟩ := bd_e hF
      refine r_callN_i (as := [vI a1, vI y7]) (st := []) C dX4_rolledTo_27 (s_X10_nextCell G l e12) (by decide) t_3_233 t_1_1 t_3_234 m_X10_nextCell ⟨Nat.le_of_ble_eq_true rfl, Nat.le_of_ble_eq_true rfl⟩ ⟨rfl, rfl⟩ ⟨Nat.zero_le _, Nat.zero_le _⟩ rfl (Nat.le_of_ble_eq_true rfl) ?_
      refine r_istore (ls2 := [(4, vI r11), (0, vR (7, q0, 0)), (1, vI a1)]) C dX4_rolledTo_30 (by decide) rfl ?_
      refine r_aload_n C 1 0 dX4_rolledTo_32 rfl rfl ?_
      refine r_iload C 0 dX4_rolledTo_33 rfl ?_
      obtain ⟨r14, σ13, e15, hF⟩ := bd_e hF
      refine r_callV_i (as := [vI r11]) (st := []) C dX4_rolledTo_35 (s_X6_kindAt G l e15) rfl rfl rfl t_4_183 t_3_122 t_3_123 t_1_5 t_3_124 m_X6_kindAt ⟨Nat.le_of_ble_eq_true rfl, Nat.le_of_ble_eq_true rfl⟩ ⟨rfl, rfl⟩ ⟨Nat.zero_le _, Nat.zero_le _⟩ rfl (Nat.le_of_ble_eq_true rfl) ?_
      refine r_iconst (v := (5 : Int32)) C dX4_rolledTo_38 rfl ?_
      refine r_icmp_ne C 46 dX4_rolledTo_39 (by decide)  (fun h16 => ?_) (fun h16 => ?_)
      · have hF := if_f h16 hF
        refine r_iload C 0 dX4_rolledTo_46 rfl ?_
        exact r_ireturn C dX4_rolledTo_48 (rt_e hF)
      · have hF := if_t h16 hF
        refine r_iload_n C 2 1 dX4_rolledTo_42 rfl rfl ?_
        refine r_goto C 48 dX4_rolledTo_43 (by decide) ?_
        exact r_ireturn C dX4_rolledTo_48 (rt_e hF)
    refine r_if_eq C 26 dX4_rolledTo_19 (by decide)  (fun h17 => ?_) (fun h17 => ?_)
    · have hF := if_t h17 hF
      refine r_iload_n C 3 2 dX4_rolledTo_26 rfl rfl ?_
      refine r_drop (ls2 := [(0, vR (7, q0, 0)), (1, vI a1)]) [1, 2] rfl ?_
      exact hk8 _ _ hF
    · have hF := if_f h17 hF
      refine r_iload_n C 0 3 dX4_rolledTo_22 rfl rfl ?_
      refine r_goto C 27 dX4_rolledTo_23 (by decide) ?_
      refine r_drop (ls2 := [(0, vR (7, q0, 0)), (1, vI a1)]) [1, 2] rfl ?_
      exact hk8 _ _ hF
  · have hF := if_t h18 hF
    refine r_iload_n C 2 1 dX4_rolledTo_12 rfl rfl ?_
    exact r_ireturn C dX4_rolledTo_13 (rt_e hF)
def L_X4_rollAll_29 (q1 : Nat) (c2 : Int32) : Nat → Int32 → St → (St → Option (Unit × St)) → Option (Unit × St)
  | 0, _, _, _ => none
  | n + 1, v3, τ, kx76 =>
  (if (4 : Int32) ≤ v3 then kx76  τ else bd (F_X4_rolledTo q1 c2 v3 τ) fun r8 σ7 => bd (F_X10_isCell r8 σ7) fun r11 σ10 => nam (fun (y13 : Int32) (σ15 : St) => ck (inb y13 96) (ck (inb c2 96) (ck (inb y13 96) (nam (uL σ15 (19, 1, 0) (y13.toNatClampNeg) ((σ15.2 (19, 1, 0) (y13.toNatClampNeg)) + (σ15.2 (19, 0, 0) (c2.toNatClampNeg)))) fun σ19 => nam (v3 + (1 : Int32)) fun x20 => L_X4_rollAll_29 q1 c2 n x20 σ19 kx76)))) fun k14 => (if r11 = 0 then k14 c2 σ10 else k14 r8 σ10))
def L_X4_rollAll_10 (q1 : Nat) : Nat → Int32 → St → (St → Option (Unit × St)) → Option (Unit × St)
  | 0, _, _, _ => none
  | n + 1, v2, τ, kx82 =>
  (if (96 : Int32) ≤ v2 then kx82  τ else ck (inb v2 96) (nam (fun  (σ5 : St) => nam (v2 + (1 : Int32)) fun x6 => L_X4_rollAll_10 q1 n x6 σ5 kx82) fun k4 => (if (lg_cmp (τ.2 (19, 0, 0) (v2.toNatClampNeg)) (0 : Int64)) = 0 then k4  τ else L_X4_rollAll_29 q1 v2 FU (0 : Int32) τ (fun  (σ23 : St) => k4  σ23))))
def F_X4_rollAll (q1 : Nat) (σ : St) : Option (Unit × St) :=
  bd (F_J7_fill_d0a16_t19 1 (0 : Int64) σ) fun _ σ1 => L_X4_rollAll_10 q1 FU (0 : Int32) σ1 (fun  (σ26 : St) => ck (cpk (0 : Int32) (0 : Int32) (96 : Int32) 96 96) (nam (uRL σ26 (19, 0, 0) (va_cpy (σ26.2 (19, 1, 0)) (σ26.2 (19, 0, 0)) (0 : Int32).toNatClampNeg (0 : Int32).toNatClampNeg (96 : Int32).toNatClampNeg)) fun σ28 => some ((), σ28)))
set_option maxRecDepth 20000 in
set_option maxHeartbeats 4000000 in
theorem l_X4_rollAll_29 {G : Gx} {p : Program} {l : Launch} {e : Env} {s : State} {m : MethodId} {args : Array Value} {below : List Frame} {meth : Method} {c : Code} (C : Cx G p s m args meth c none 5 RX4 cX4_rollAll) (q1 : Nat) (c2 : Int32) {σ' : St}  (kx76 : St → Option (Unit × St)) (hkx76 : ∀  (τ : St), kx76  τ = some ((), σ') → Rt G p l e (lvl 2) s m args below meth c 0 0 (MQ below (va_Qv (fun b => b = σ') (Wd G) (AG G)) args s 0 0 (AG G)) 5 76 [(0, vR (18, 0, 0)), (1, vR (7, q1, 0)), (2, vI c2)] [] τ) : ∀ (n : Nat) (v3 : Int32) (τ : St), L_X4_rollAll_29 q1 c2 n v3 τ kx76 = some ((), σ') → Rt G p l e (lvl 2) s m args below meth c 0 0 (MQ below (va_Qv (fun b => b = σ') (Wd G) (AG G)) args s 0 0 (AG G)) 5 29 [(0, vR (18, 0, 0)), (1, vR (7, q1, 0)), (2, vI c2), (3, vI v3)] [] τ := by
  intro n
  induction n with
  | zero => intro v3 τ hF; cases hF
  | succ n ih =>
    intro v3 τ hF
    unfold L_X4_rollAll_29 at hF
    refine r_iload_n C 3 3 dX4_rollAll_29 rfl rfl ?_
    refine r_iconst (v := (4 : Int32)) C dX4_rollAll_30 rfl ?_
    refine r_icmp_ge C 76 dX4_rollAll_31 (by decide)  (fun h22 => ?_) (fun h22 => ?_)
    · have hF := if_t h22 hF
      refine r_drop (ls2 := [(0, vR (18, 0, 0)), (1, vR (7, q1, 0)), (2, vI c2)]) [0, 1, 2] rfl ?_
      exact hkx76 _ hF
    · have hF := if_f h22 hF
      refine r_aload_n C 1 1 dX4_rollAll_34 rfl rfl ?_
      refine r_iload_n C 2 2 dX4_rollAll_35 rfl rfl ?_
      refine r_iload_n C 3 3 dX4_rollAll_36 rfl rfl ?_
      obtain ⟨r8, σ7, e9, hF⟩ := bd_e hF
      refine r_callS_i (as := [vR (7, q1, 0), vI c2, vI v3]) (st := []) C dX4_rollAll_37 (s_X4_rolledTo G l e9) t_4_180 t_4_181 t_1_10 t_4_182 m_X4_rolledTo ⟨Nat.le_of_ble_eq_true rfl, Nat.le_of_ble_eq_true rfl⟩ ⟨rfl, rfl⟩ ⟨Nat.zero_le _, Nat.zero_le _⟩ rfl (Nat.le_of_ble_eq_true rfl) ?_
      refine r_istore (ls2 := [(4, vI r8), (0, vR (18, 0, 0)), (1, vR (7, q1, 0)), (2, vI c2), (3, vI v3)]) C dX4_rollAll_40 (by decide) rfl ?_
      refine r_aload_n C 1 0 dX4_rollAll_42 rfl rfl ?_
      refine r_getR (kf := 1) (d2 := (19, 1, 0)) C dX4_rollAll_43 rfl rfl f_X4 (by decide) t_2_31 rfl rfl ?_
      refine r_iload C 0 dX4_rollAll_46 rfl ?_
      obtain ⟨r11, σ10, e12, hF⟩ := bd_e hF
      refine r_callN_i (as := [vI r8]) (st := [vR (19, 1, 0)]) C dX4_rollAll_48 (s_X10_isCell G l e12) (by decide) t_3_119 t_1_1 t_3_120 m_X10_isCell ⟨Nat.le_of_ble_eq_true rfl, Nat.le_of_ble_eq_true rfl⟩ ⟨rfl, rfl⟩ ⟨Nat.zero_le _, Nat.zero_le _⟩ rfl (Nat.le_of_ble_eq_true rfl) ?_
      obtain ⟨k14, ek14, hF⟩ := nam_e hF
      have hk14 : ∀ (y13 : Int32) (σ15 : St), k14 y13 σ15 = some ((), σ') → Rt G p l e (lvl 2) s m args below meth c 0 0 (MQ below (va_Qv (fun b => b = σ') (Wd G) (AG G)) args s 0 0 (AG G)) 5 60 [(0, vR (18, 0, 0)), (1, vR (7, q1, 0)), (2, vI c2), (3, vI v3)] [vI y13, vR (19, 1, 0)] σ15 := by
        intro y13 σ15 hF
        subst ek14
        refine r_dup2_ri C dX4_rollAll_60 ?_
        obtain ⟨h16, hF⟩ := ck_e hF
        refine r_laload C (y13.toNatClampNeg) dX4_rollAll_61 rfl h16 rfl ?_
        refine r_aload_n C 0 0 dX4_rollAll_62 rfl rfl ?_
        refine r_getR (kf := 0) (d2 := (19, 0, 0)) C dX4_rollAll_63 rfl rfl f_X4 (by decide) t_2_30 rfl rfl ?_
        refine r_iload_n C 2 2 dX4_rollAll_66 rfl rfl ?_
        obtain ⟨h17, hF⟩ := ck_e hF
        refine r_laload C (c2.toNatClampNeg) dX4_rollAll_67 rfl h17 rfl ?_
        refine r_ladd C dX4_rollAll_68 ?_
        obtain ⟨h18, hF⟩ := ck_e hF
        obtain ⟨σ19, eσ19, hF⟩ := nam_e hF
        refine r_lastore C (y13.toNatClampNeg) dX4_rollAll_69 rfl h18 rfl eσ19 ?_
        obtain ⟨x20, ex20, hF⟩ := nam_e hF
        refine r_iinc (v := x20) (ls2 := [(3, vI x20), (0, vR (18, 0, 0)), (1, vR (7, q1, 0)), (2, vI c2)]) C 3 dX4_rollAll_70 rfl ex20.symm (by decide) rfl ?_
        refine r_goto C 29 dX4_rollAll_73 (by decide) ?_
        refine r_drop (ls2 := [(0, vR (18, 0, 0)), (1, vR (7, q1, 0)), (2, vI c2), (3, vI x20)]) [1, 2, 3, 0] rfl ?_
        exact ih _ _ hF
      refine r_if_eq C 59 dX4_rollAll_51 (by decide)  (fun h21 => ?_) (fun h21 => ?_)
      · have hF := if_t h21 hF
        refine r_iload_n C 3 2 dX4_rollAll_59 rfl rfl ?_
        refine r_drop (ls2 := [(0, vR (18, 0, 0)), (1, vR (7, q1, 0)), (2, vI c2), (3, vI v3)]) [1, 2, 3, 4] rfl ?_
        exact hk14 _ _ hF
      · have hF := if_f h21 hF
        refine r_iload C 0 dX4_rollAll_54 rfl ?_
        refine r_goto C 60 dX4_rollAll_56 (by decide) ?_
        refine r_drop (ls2 := [(0, vR (18, 0, 0)), (1, vR (7, q1, 0)), (2, vI c2), (3, vI v3)]) [1, 2, 3, 4] rfl ?_
        exact hk14 _ _ hF
set_option maxRecDepth 20000 in
set_option maxHeartbeats 4000000 in
theorem l_X4_rollAll_10 {G : Gx} {p : Program} {l : Launch} {e : Env} {s : State} {m : MethodId} {args : Array Value} {below : List Frame} {meth : Method} {c : Code} (C : Cx G p s m args meth c none 5 RX4 cX4_rollAll) (q1 : Nat) {σ' : St}  (kx82 : St → Option (Unit × St)) (hkx82 : ∀  (τ : St), kx82  τ = some ((), σ') → Rt G p l e (lvl 2) s m args below meth c 0 0 (MQ below (va_Qv (fun b => b = σ') (Wd G) (AG G)) args s 0 0 (AG G)) 5 82 [(0, vR (18, 0, 0))] [] τ) : ∀ (n : Nat) (v2 : Int32) (τ : St), L_X4_rollAll_10 q1 n v2 τ kx82 = some ((), σ') → Rt G p l e (lvl 2) s m args below meth c 0 0 (MQ below (va_Qv (fun b => b = σ') (Wd G) (AG G)) args s 0 0 (AG G)) 5 10 [(0, vR (18, 0, 0)), (1, vR (7, q1, 0)), (2, vI v2)] [] τ := by
  intro n
  induction n with
  | zero => intro v2 τ hF; cases hF
  | succ n ih =>
    intro v2 τ hF
    unfold L_X4_rollAll_10 at hF
    refine r_iload_n C 2 2 dX4_rollAll_10 rfl rfl ?_
    refine r_bipush (v := (96 : Int32)) C dX4_rollAll_11 rfl ?_
    refine r_icmp_ge C 82 dX4_rollAll_13 (by decide)  (fun h25 => ?_) (fun h25 => ?_)
    · have hF := if_t h25 hF
      refine r_drop (ls2 := [(0, vR (18, 0, 0))]) [0] rfl ?_
      exact hkx82 _ hF
    · have hF := if_f h25 hF
      refine r_aload_n C 0 0 dX4_rollAll_16 rfl rfl ?_
      refine r_getR (kf := 0) (d2 := (19, 0, 0)) C dX4_rollAll_17 rfl rfl f_X4 (by decide) t_2_30 rfl rfl ?_
      refine r_iload_n C 2 2 dX4_rollAll_20 rfl rfl ?_
      obtain ⟨h3, hF⟩ := ck_e hF
      refine r_laload C (v2.toNatClampNeg) dX4_rollAll_21 rfl h3 rfl ?_
      refine r_lconst (v := (0 : Int64)) C dX4_rollAll_22 rfl ?_
      refine r_lcmp C dX4_rollAll_23 ?_
      obtain ⟨k4, ek4, hF⟩ := nam_e hF
      have hk4 : ∀  (σ5 : St), k4  σ5 = some ((), σ') → Rt G p l e (lvl 2) s m args below meth c 0 0 (MQ below (va_Qv (fun b => b = σ') (Wd G) (AG G)) args s 0 0 (AG G)) 5 76 [(0, vR (18, 0, 0)), (1, vR (7, q1, 0)), (2, vI v2)] [] σ5 := by
        intro  σ5 hF
        subst ek4
        obtain ⟨x6, ex6, hF⟩ := nam_e hF
        refine r_iinc (v := x6) (ls2 := [(2, vI x6), (0, vR (18, 0, 0)), (1, vR (7, q1, 0))]) C 2 dX4_rollAll_76 rfl ex6.symm (by decide) rfl ?_
        refine r_goto C 10 dX4_rollAll_79 (by decide) ?_
        refine r_drop (ls2 := [(0, vR (18, 0, 0)), (1, vR (7, q1, 0)), (2, vI x6)]) [1, 2, 0] rfl ?_
        exact ih _ _ hF
      refine r_if_eq C 76 dX4_rollAll_24 (by decide)  (fun h24 => ?_) (fun h24 => ?_)
      · have hF := if_t h24 hF
        exact hk4 _ hF
      · have hF := if_f h24 hF
        refine r_iconst (v := (0 : Int32)) C dX4_rollAll_27 rfl ?_
        refine r_istore_n (ls2 := [(3, vI (0 : Int32)), (0, vR (18, 0, 0)), (1, vR (7, q1, 0)), (2, vI v2)]) C dX4_rollAll_28 3 rfl (by decide) rfl ?_
        refine r_drop (ls2 := [(0, vR (18, 0, 0)), (1, vR (7, q1, 0)), (2, vI v2), (3, vI (0 : Int32))]) [1, 2, 3, 0] rfl ?_
        refine l_X4_rollAll_29 C q1 v2 _ ?_ _ _ _ hF
        · intro  σ23 hF
          exact hk4 _ hF
set_option maxRecDepth 20000 in
set_option maxHeartbeats 4000000 in
theorem s_X4_rollAll (G : Gx) (l : Launch) {q1 : Nat} {σ σ' : St}  (hF : F_X4_rollAll q1 σ = some ((), σ')) : Sp G l yX4_rollAll cX4_rollAll 5 none (lvl 2) [vR (18, 0, 0), vR (7, q1, 0)] σ (va_Qv (fun b => b = σ') (Wd G) (AG G)) := by
  refine Sp_of (own := RX4) (by decide) rfl (Nat.le_of_ble_eq_true rfl) ?_
  intro p e s m args below meth c C
  show Rt G p l e (lvl 2) s m args below meth c 0 0 (MQ below (va_Qv (fun b => b = σ') (Wd G) (AG G)) args s 0 0 (AG G)) 5 0 [(0, vR (18, 0, 0)), (1, vR (7, q1, 0))] [] σ
  unfold F_X4_rollAll at hF
  refine r_aload_n C 0 0 dX4_rollAll_0 rfl rfl ?_
  refine r_getR (kf := 1) (d2 := (19, 1, 0)) C dX4_rollAll_1 rfl rfl f_X4 (by decide) t_2_31 rfl rfl ?_
  refine r_lconst (v := (0 : Int64)) C dX4_rollAll_4 rfl ?_
  obtain ⟨⟨⟩, σ1, e2, hF⟩ := bd_e hF
  refine r_callS_v (as := [vR (19, 1, 0), vL (0 : Int64)]) (st := []) C dX4_rollAll_5 (s_J7_fill_d0a16_t19 G l e2) t_4_168 t_4_169 t_1_6 t_4_170 m_J7_fill_d0a16 ⟨Nat.le_of_ble_eq_true rfl, Nat.le_of_ble_eq_true rfl⟩ ⟨rfl, rfl⟩ ⟨Nat.zero_le _, Nat.zero_le _⟩ rfl (Nat.le_of_ble_eq_true rfl) ?_
  refine r_iconst (v := (0 : Int32)) C dX4_rollAll_8 rfl ?_
  refine r_istore_n (ls2 := [(2, vI (0 : Int32)), (0, vR (18, 0, 0)), (1, vR (7, q1, 0))]) C dX4_rollAll_9 2 rfl (by decide) rfl ?_
  refine r_drop (ls2 := [(0, vR (18, 0, 0)), (1, vR (7, q1, 0)), (2, vI (0 : Int32))]) [1, 2, 0] rfl ?_
  refine l_X4_rollAll_10 C q1 _ ?_ _ _ _ hF
  · intro  σ26 hF
    refine r_aload_n C 0 0 dX4_rollAll_82 rfl rfl ?_
    refine r_getR (kf := 1) (d2 := (19, 1, 0)) C dX4_rollAll_83 rfl rfl f_X4 (by decide) t_2_31 rfl rfl ?_
    refine r_iconst (v := (0 : Int32)) C dX4_rollAll_86 rfl ?_
    refine r_aload_n C 0 0 dX4_rollAll_87 rfl rfl ?_
    refine r_getR (kf := 0) (d2 := (19, 0, 0)) C dX4_rollAll_88 rfl rfl f_X4 (by decide) t_2_30 rfl rfl ?_
    refine r_iconst (v := (0 : Int32)) C dX4_rollAll_91 rfl ?_
    refine r_bipush (v := (96 : Int32)) C dX4_rollAll_92 rfl ?_
    obtain ⟨h27, hF⟩ := ck_e hF
    obtain ⟨σ28, eσ28, hF⟩ := nam_e hF
    refine r_copyJ C dX4_rollAll_94 rfl rfl t_4_186 t_1_49 t_1_48 t_1_4 ⟨Nat.le_of_ble_eq_true rfl, Nat.le_of_ble_eq_true rfl⟩ h27 eσ28 ?_
    exact r_return C dX4_rollAll_97 (rv_e hF)
def L_X4_beenIn_37 (q1 : Nat) (c3 : Int32) (c4 : Int32) : Nat → Int64 → Int32 → St → (Int64 → St → Option (Int64 × St)) → Option (Int64 × St)
  | 0, _, _, _, _ => none
  | n + 1, v5, v7, τ, kx69 =>
  (if c4 ≤ v7 then kx69 v5 τ else bd (F_X4_takeOut c3 τ) fun r12 σ11 => bd (F_X4_rollAll q1 σ11) fun _ σ14 => nam (v7 + (1 : Int32)) fun x16 => L_X4_beenIn_37 q1 c3 c4 n ((4 : Int64) * (v5 + r12)) x16 σ14 kx69)
def F_X4_beenIn (q1 : Nat) (a2 : Int32) (a3 : Int32) (a4 : Int32) (σ : St) : Option (Int64 × St) :=
  bd (F_X10_isCell a2 σ) fun r2 σ1 => (if r2 = 0 then some ((0 : Int64), σ1) else bd (F_X10_isCell a3 σ1) fun r5 σ4 => (if r5 = 0 then some ((0 : Int64), σ4) else bd (F_J7_fill_d0a16_t19 0 (0 : Int64) σ4) fun _ σ7 => ck (inb a2 96) (nam (uL σ7 (19, 0, 0) (a2.toNatClampNeg) (1 : Int64)) fun σ10 => L_X4_beenIn_37 q1 a3 a4 FU (0 : Int64) (0 : Int32) σ10 (fun (y19 : Int64) (σ18 : St) => bd (F_X4_takeOut a3 σ18) fun r21 σ20 => some (y19 + r21, σ20)))))
set_option maxRecDepth 20000 in
set_option maxHeartbeats 4000000 in
theorem l_X4_beenIn_37 {G : Gx} {p : Program} {l : Launch} {e : Env} {s : State} {m : MethodId} {args : Array Value} {below : List Frame} {meth : Method} {c : Code} (C : Cx G p s m args meth c (some .long) 8 RX4 cX4_beenIn) (q1 : Nat) (c3 : Int32) (c4 : Int32) {σ' : St} {r : Int64} (kx69 : Int64 → St → Option (Int64 × St)) (hkx69 : ∀ (w5 : Int64) (τ : St), kx69 w5 τ = some (r, σ') → Rt G p l e (lvl 3) s m args below meth c 0 0 (MQ below (va_Ql (fun a b => a = r ∧ b = σ') (Wd G) (AG G)) args s 0 0 (AG G)) 8 69 [(0, vR (18, 0, 0)), (3, vI c3), (5, vL w5)] [] τ) : ∀ (n : Nat) (v5 : Int64) (v7 : Int32) (τ : St), L_X4_beenIn_37 q1 c3 c4 n v5 v7 τ kx69 = some (r, σ') → Rt G p l e (lvl 3) s m args below meth c 0 0 (MQ below (va_Ql (fun a b => a = r ∧ b = σ') (Wd G) (AG G)) args s 0 0 (AG G)) 8 37 [(0, vR (18, 0, 0)), (1, vR (7, q1, 0)), (3, vI c3), (4, vI c4), (5, vL v5), (7, vI v7)] [] τ := by
  intro n
  induction n with
  | zero => intro v5 v7 τ hF; cases hF
  | succ n ih =>
    intro v5 v7 τ hF
    unfold L_X4_beenIn_37 at hF
    refine r_iload C 5 dX4_beenIn_37 rfl ?_
    refine r_iload C 3 dX4_beenIn_39 rfl ?_
    refine r_icmp_ge C 69 dX4_beenIn_41 (by decide)  (fun h17 => ?_) (fun h17 => ?_)
    · have hF := if_t h17 hF
      refine r_drop (ls2 := [(0, vR (18, 0, 0)), (3, vI c3), (5, vL v5)]) [0, 2, 4] rfl ?_
      exact hkx69 _ _ hF
    · have hF := if_f h17 hF
      refine r_ldc2_w (v := (4 : Int64)) C dX4_beenIn_44 t_4_171 ?_
      refine r_lload C 4 dX4_beenIn_47 rfl ?_
      refine r_aload_n C 0 0 dX4_beenIn_49 rfl rfl ?_
      refine r_iload_n C 2 3 dX4_beenIn_50 rfl rfl ?_
      obtain ⟨r12, σ11, e13, hF⟩ := bd_e hF
      refine r_callV_l (as := [vI c3]) (st := [vL v5, vL (4 : Int64)]) C dX4_beenIn_51 (s_X4_takeOut G l e13) rfl rfl rfl t_4_172 t_4_174 t_s_18 t_1_10 t_4_175 m_X4_takeOut ⟨Nat.le_of_ble_eq_true rfl, Nat.le_of_ble_eq_true rfl⟩ ⟨rfl, rfl⟩ ⟨Nat.zero_le _, Nat.zero_le _⟩ rfl (Nat.le_of_ble_eq_true rfl) ?_
      refine r_ladd C dX4_beenIn_54 ?_
      refine r_lmul C dX4_beenIn_55 ?_
      refine r_lstore (ls2 := [(5, vL ((4 : Int64) * (v5 + r12))), (0, vR (18, 0, 0)), (1, vR (7, q1, 0)), (3, vI c3), (4, vI c4), (7, vI v7)]) C dX4_beenIn_56 (by decide) rfl ?_
      refine r_aload_n C 1 0 dX4_beenIn_58 rfl rfl ?_
      refine r_aload_n C 2 1 dX4_beenIn_59 rfl rfl ?_
      obtain ⟨⟨⟩, σ14, e15, hF⟩ := bd_e hF
      refine r_callV_v (as := [vR (7, q1, 0)]) (st := []) C dX4_beenIn_60 (s_X4_rollAll G l e15) rfl rfl rfl t_4_176 t_4_178 t_s_19 t_1_10 t_4_179 m_X4_rollAll ⟨Nat.le_of_ble_eq_true rfl, Nat.le_of_ble_eq_true rfl⟩ ⟨rfl, rfl⟩ ⟨Nat.zero_le _, Nat.zero_le _⟩ rfl (Nat.le_of_ble_eq_true rfl) ?_
      obtain ⟨x16, ex16, hF⟩ := nam_e hF
      refine r_iinc (v := x16) (ls2 := [(7, vI x16), (5, vL ((4 : Int64) * (v5 + r12))), (0, vR (18, 0, 0)), (1, vR (7, q1, 0)), (3, vI c3), (4, vI c4)]) C 5 dX4_beenIn_63 rfl ex16.symm (by decide) rfl ?_
      refine r_goto C 37 dX4_beenIn_66 (by decide) ?_
      refine r_drop (ls2 := [(0, vR (18, 0, 0)), (1, vR (7, q1, 0)), (3, vI c3), (4, vI c4), (5, vL ((4 : Int64) * (v5 + r12))), (7, vI x16)]) [2, 3, 4, 5, 1, 0] rfl ?_
      exact ih _ _ _ hF
set_option maxRecDepth 20000 in
set_option maxHeartbeats 4000000 in
theorem s_X4_beenIn (G : Gx) (l : Launch) {q1 : Nat} {a2 : Int32} {a3 : Int32} {a4 : Int32} {σ σ' : St} {r : Int64} (hF : F_X4_beenIn q1 a2 a3 a4 σ = some (r, σ')) : Sp G l yX4_beenIn cX4_beenIn 8 (some .long) (lvl 3) [vR (18, 0, 0), vR (7, q1, 0), vI a2, vI a3, vI a4] σ (va_Ql (fun a b => a = r ∧ b = σ') (Wd G) (AG G)) := by
  refine Sp_of (own := RX4) (by decide) rfl (Nat.le_of_ble_eq_true rfl) ?_
  intro p e s m args below meth c C
  show Rt G p l e (lvl 3) s m args below meth c 0 0 (MQ below (va_Ql (fun a b => a = r ∧ b = σ') (Wd G) (AG G)) args s 0 0 (AG G)) 8 0 [(0, vR (18, 0, 0)), (1, vR (7, q1, 0)), (2, vI a2), (3, vI a3), (4, vI a4)] [] σ
  unfold F_X4_beenIn at hF
  refine r_iload_n C 2 2 dX4_beenIn_0 rfl rfl ?_
  obtain ⟨r2, σ1, e3, hF⟩ := bd_e hF
  refine r_callN_i (as := [vI a2]) (st := []) C dX4_beenIn_1 (s_X10_isCell G l e3) (by decide) t_3_119 t_1_1 t_3_120 m_X10_isCell ⟨Nat.le_of_ble_eq_true rfl, Nat.le_of_ble_eq_true rfl⟩ ⟨rfl, rfl⟩ ⟨Nat.zero_le _, Nat.zero_le _⟩ rfl (Nat.le_of_ble_eq_true rfl) ?_
  refine r_if_eq C 14 dX4_beenIn_4 (by decide)  (fun h24 => ?_) (fun h24 => ?_)
  · have hF := if_t h24 hF
    refine r_lconst (v := (0 : Int64)) C dX4_beenIn_14 rfl ?_
    exact r_lreturn C dX4_beenIn_15 (rt_e hF)
  · have hF := if_f h24 hF
    refine r_iload_n C 3 3 dX4_beenIn_7 rfl rfl ?_
    obtain ⟨r5, σ4, e6, hF⟩ := bd_e hF
    refine r_callN_i (as := [vI a3]) (st := []) C dX4_beenIn_8 (s_X10_isCell G l e6) (by decide) t_3_119 t_1_1 t_3_120 m_X10_isCell ⟨Nat.le_of_ble_eq_true rfl, Nat.le_of_ble_eq_true rfl⟩ ⟨rfl, rfl⟩ ⟨Nat.zero_le _, Nat.zero_le _⟩ rfl (Nat.le_of_ble_eq_true rfl) ?_
    refine r_if_ne C 16 dX4_beenIn_11 (by decide)  (fun h23 => ?_) (fun h23 => ?_)
    · have hF := if_f h23 hF
      refine r_aload_n C 0 0 dX4_beenIn_16 rfl rfl ?_
      refine r_getR (kf := 0) (d2 := (19, 0, 0)) C dX4_beenIn_17 rfl rfl f_X4 (by decide) t_2_30 rfl rfl ?_
      refine r_lconst (v := (0 : Int64)) C dX4_beenIn_20 rfl ?_
      obtain ⟨⟨⟩, σ7, e8, hF⟩ := bd_e hF
      refine r_callS_v (as := [vR (19, 0, 0), vL (0 : Int64)]) (st := []) C dX4_beenIn_21 (s_J7_fill_d0a16_t19 G l e8) t_4_168 t_4_169 t_1_6 t_4_170 m_J7_fill_d0a16 ⟨Nat.le_of_ble_eq_true rfl, Nat.le_of_ble_eq_true rfl⟩ ⟨rfl, rfl⟩ ⟨Nat.zero_le _, Nat.zero_le _⟩ rfl (Nat.le_of_ble_eq_true rfl) ?_
      refine r_aload_n C 0 0 dX4_beenIn_24 rfl rfl ?_
      refine r_getR (kf := 0) (d2 := (19, 0, 0)) C dX4_beenIn_25 rfl rfl f_X4 (by decide) t_2_30 rfl rfl ?_
      refine r_iload_n C 2 2 dX4_beenIn_28 rfl rfl ?_
      refine r_lconst (v := (1 : Int64)) C dX4_beenIn_29 rfl ?_
      obtain ⟨h9, hF⟩ := ck_e hF
      obtain ⟨σ10, eσ10, hF⟩ := nam_e hF
      refine r_lastore C (a2.toNatClampNeg) dX4_beenIn_30 rfl h9 rfl eσ10 ?_
      refine r_lconst (v := (0 : Int64)) C dX4_beenIn_31 rfl ?_
      refine r_lstore (ls2 := [(5, vL (0 : Int64)), (0, vR (18, 0, 0)), (1, vR (7, q1, 0)), (2, vI a2), (3, vI a3), (4, vI a4)]) C dX4_beenIn_32 (by decide) rfl ?_
      refine r_iconst (v := (0 : Int32)) C dX4_beenIn_34 rfl ?_
      refine r_istore (ls2 := [(7, vI (0 : Int32)), (5, vL (0 : Int64)), (0, vR (18, 0, 0)), (1, vR (7, q1, 0)), (2, vI a2), (3, vI a3), (4, vI a4)]) C dX4_beenIn_35 (by decide) rfl ?_
      refine r_drop (ls2 := [(0, vR (18, 0, 0)), (1, vR (7, q1, 0)), (3, vI a3), (4, vI a4), (5, vL (0 : Int64)), (7, vI (0 : Int32))]) [2, 3, 5, 6, 1, 0] rfl ?_
      refine l_X4_beenIn_37 C q1 a3 a4 _ ?_ _ _ _ _ hF
      · intro y19 σ18 hF
        refine r_lload C 2 dX4_beenIn_69 rfl ?_
        refine r_aload_n C 0 0 dX4_beenIn_71 rfl rfl ?_
        refine r_iload_n C 1 3 dX4_beenIn_72 rfl rfl ?_
        obtain ⟨r21, σ20, e22, hF⟩ := bd_e hF
        refine r_callV_l (as := [vI a3]) (st := [vL y19]) C dX4_beenIn_73 (s_X4_takeOut G l e22) rfl rfl rfl t_4_172 t_4_174 t_s_18 t_1_10 t_4_175 m_X4_takeOut ⟨Nat.le_of_ble_eq_true rfl, Nat.le_of_ble_eq_true rfl⟩ ⟨rfl, rfl⟩ ⟨Nat.zero_le _, Nat.zero_le _⟩ rfl (Nat.le_of_ble_eq_true rfl) ?_
        refine r_ladd C dX4_beenIn_76 ?_
        exact r_lreturn C dX4_beenIn_77 (rt_e hF)
    · have hF := if_t h23 hF
      refine r_lconst (v := (0 : Int64)) C dX4_beenIn_14 rfl ?_
      exact r_lreturn C dX4_beenIn_15 (rt_e hF)
def L_X10_odds_80 (c3 : Int32) (c4 : Int32) : Nat → Int64 → Int64 → Int32 → St → (Int64 → Int64 → St → Option (Int64 × St)) → Option (Int64 × St)
  | 0, _, _, _, _, _ => none
  | n + 1, v5, v7, v9, τ, kx115 =>
  (if ((2 : Int32) * c3) ≤ v9 then kx115 v5 v7 τ else (if (lg_cmp (v5 &&& (1 : Int64)) (0 : Int64)) = 0 then nam (v5 >>> ((1 : Int32).toInt64 &&& 63)) fun x19 => nam (v7 >>> ((1 : Int32).toInt64 &&& 63)) fun x20 => nam (v9 + (1 : Int32)) fun x21 => L_X10_odds_80 c3 c4 n x19 x20 x21 τ kx115 else kx115 v5 v7 τ))
def F_X10_odds (a1 : Int32) (a2 : Int32) (a3 : Int32) (a4 : Int32) (σ : St) : Option (Int64 × St) :=
  bd (F_X10_isCell a1 σ) fun r2 σ1 => (if r2 = 0 then some ((-1 : Int64), σ1) else bd (F_X10_isCell a2 σ1) fun r5 σ4 => (if r5 = 0 then some ((-1 : Int64), σ4) else bd (F_X10_within a3 (0 : Int32) (10 : Int32) σ4) fun r8 σ7 => (if r8 = 0 then some ((-1 : Int64), σ7) else bd (F_X10_within a4 (0 : Int32) (1 : Int32) σ7) fun r11 σ10 => (if r11 = 0 then some ((-1 : Int64), σ10) else bd (F_X6_kindAt 0 a1 σ10) fun r14 σ13 => (if r14 = (5 : Int32) then some ((-2 : Int64), σ13) else bd (F_X4_beenIn 0 a1 a2 a3 σ13) fun r17 σ16 => L_X10_odds_80 a3 a4 FU r17 ((1 : Int64) <<< (((2 : Int32) * a3).toInt64 &&& 63)) (0 : Int32) σ16 (fun (y25 : Int64) (y26 : Int64) (σ24 : St) => (if a4 = 0 then some (y25, σ24) else some (y26, σ24))))))))
set_option maxRecDepth 20000 in
set_option maxHeartbeats 4000000 in
theorem l_X10_odds_80 {G : Gx} {p : Program} {l : Launch} {e : Env} {s : State} {m : MethodId} {args : Array Value} {below : List Frame} {meth : Method} {c : Code} (C : Cx G p s m args meth c (some .long) 10 RX10 cX10_odds) (c3 : Int32) (c4 : Int32) {σ' : St} {r : Int64} (kx115 : Int64 → Int64 → St → Option (Int64 × St)) (hkx115 : ∀ (w5 : Int64) (w7 : Int64) (τ : St), kx115 w5 w7 τ = some (r, σ') → Rt G p l e (lvl 4) s m args below meth c 0 0 (MQ below (va_Ql (fun a b => a = r ∧ b = σ') (Wd G) (AG G)) args s 0 0 (AG G)) 10 115 [(4, vI c4), (5, vL w5), (7, vL w7)] [] τ) : ∀ (n : Nat) (v5 : Int64) (v7 : Int64) (v9 : Int32) (τ : St), L_X10_odds_80 c3 c4 n v5 v7 v9 τ kx115 = some (r, σ') → Rt G p l e (lvl 4) s m args below meth c 0 0 (MQ below (va_Ql (fun a b => a = r ∧ b = σ') (Wd G) (AG G)) args s 0 0 (AG G)) 10 80 [(3, vI c3), (4, vI c4), (5, vL v5), (7, vL v7), (9, vI v9)] [] τ := by
  intro n
  induction n with
  | zero => intro v5 v7 v9 τ hF; cases hF
  | succ n ih =>
    intro v5 v7 v9 τ hF
    unfold L_X10_odds_80 at hF
    refine r_iload C 4 dX10_odds_80 rfl ?_
    refine r_iconst (v := (2 : Int32)) C dX10_odds_82 rfl ?_
    refine r_iload_n C 0 3 dX10_odds_83 rfl rfl ?_
    refine r_imul C dX10_odds_84 ?_
    refine r_icmp_ge C 115 dX10_odds_85 (by decide)  (fun h23 => ?_) (fun h23 => ?_)
    · have hF := if_t h23 hF
      refine r_drop (ls2 := [(4, vI c4), (5, vL v5), (7, vL v7)]) [1, 2, 3] rfl ?_
      exact hkx115 _ _ _ hF
    · have hF := if_f h23 hF
      refine r_lload C 2 dX10_odds_88 rfl ?_
      refine r_lconst (v := (1 : Int64)) C dX10_odds_90 rfl ?_
      refine r_land C dX10_odds_91 ?_
      refine r_lconst (v := (0 : Int64)) C dX10_odds_92 rfl ?_
      refine r_lcmp C dX10_odds_93 ?_
      refine r_if_ne C 115 dX10_odds_94 (by decide)  (fun h22 => ?_) (fun h22 => ?_)
      · have hF := if_f h22 hF
        refine r_drop (ls2 := [(4, vI c4), (5, vL v5), (7, vL v7)]) [1, 2, 3] rfl ?_
        exact hkx115 _ _ _ hF
      · have hF := if_t h22 hF
        refine r_lload C 2 dX10_odds_97 rfl ?_
        refine r_iconst (v := (1 : Int32)) C dX10_odds_99 rfl ?_
        refine r_lshr C dX10_odds_100 ?_
        obtain ⟨x19, ex19, hF⟩ := nam_e hF
        refine r_topL ex19 ?_
        refine r_lstore (ls2 := [(5, vL x19), (3, vI c3), (4, vI c4), (7, vL v7), (9, vI v9)]) C dX10_odds_101 (by decide) rfl ?_
        refine r_lload C 3 dX10_odds_103 rfl ?_
        refine r_iconst (v := (1 : Int32)) C dX10_odds_105 rfl ?_
        refine r_lshr C dX10_odds_106 ?_
        obtain ⟨x20, ex20, hF⟩ := nam_e hF
        refine r_topL ex20 ?_
        refine r_lstore (ls2 := [(7, vL x20), (5, vL x19), (3, vI c3), (4, vI c4), (9, vI v9)]) C dX10_odds_107 (by decide) rfl ?_
        obtain ⟨x21, ex21, hF⟩ := nam_e hF
        refine r_iinc (v := x21) (ls2 := [(9, vI x21), (7, vL x20), (5, vL x19), (3, vI c3), (4, vI c4)]) C 4 dX10_odds_109 rfl ex21.symm (by decide) rfl ?_
        refine r_goto C 80 dX10_odds_112 (by decide) ?_
        refine r_drop (ls2 := [(3, vI c3), (4, vI c4), (5, vL x19), (7, vL x20), (9, vI x21)]) [3, 4, 2, 1, 0] rfl ?_
        exact ih _ _ _ _ hF
set_option maxRecDepth 20000 in
set_option maxHeartbeats 4000000 in
theorem s_X10_odds (G : Gx) (l : Launch) {a1 : Int32} {a2 : Int32} {a3 : Int32} {a4 : Int32} {σ σ' : St} {r : Int64} (hF : F_X10_odds a1 a2 a3 a4 σ = some (r, σ')) : Sp G l yX10_odds cX10_odds 10 (some .long) (lvl 4) [vR (0, 0, 0), vI a1, vI a2, vI a3, vI a4] σ (va_Ql (fun a b => a = r ∧ b = σ') (Wd G) (AG G)) := by
  refine Sp_of (own := RX10) (by decide) rfl (Nat.le_of_ble_eq_true rfl) ?_
  intro p e s m args below meth c C
  show Rt G p l e (lvl 4) s m args below meth c 0 0 (MQ below (va_Ql (fun a b => a = r ∧ b = σ') (Wd G) (AG G)) args s 0 0 (AG G)) 10 0 [(0, vR (0, 0, 0)), (1, vI a1), (2, vI a2), (3, vI a3), (4, vI a4)] [] σ
  unfold F_X10_odds at hF
  refine r_iload_n C 1 1 dX10_odds_0 rfl rfl ?_
  obtain ⟨r2, σ1, e3, hF⟩ := bd_e hF
  refine r_callS_i (as := [vI a1]) (st := []) C dX10_odds_1 (s_X10_isCell G l e3) t_3_118 t_3_119 t_1_1 t_3_120 m_X10_isCell ⟨Nat.le_of_ble_eq_true rfl, Nat.le_of_ble_eq_true rfl⟩ ⟨rfl, rfl⟩ ⟨Nat.zero_le _, Nat.zero_le _⟩ rfl (Nat.le_of_ble_eq_true rfl) ?_
  refine r_if_eq C 34 dX10_odds_4 (by decide)  (fun h32 => ?_) (fun h32 => ?_)
  · have hF := if_t h32 hF
    refine r_ldc2_w (v := (-1 : Int64)) C dX10_odds_34 t_4_98 ?_
    exact r_lreturn C dX10_odds_37 (rt_e hF)
  · have hF := if_f h32 hF
    refine r_iload_n C 2 2 dX10_odds_7 rfl rfl ?_
    obtain ⟨r5, σ4, e6, hF⟩ := bd_e hF
    refine r_callS_i (as := [vI a2]) (st := []) C dX10_odds_8 (s_X10_isCell G l e6) t_3_118 t_3_119 t_1_1 t_3_120 m_X10_isCell ⟨Nat.le_of_ble_eq_true rfl, Nat.le_of_ble_eq_true rfl⟩ ⟨rfl, rfl⟩ ⟨Nat.zero_le _, Nat.zero_le _⟩ rfl (Nat.le_of_ble_eq_true rfl) ?_
    refine r_if_eq C 34 dX10_odds_11 (by decide)  (fun h31 => ?_) (fun h31 => ?_)
    · have hF := if_t h31 hF
      refine r_ldc2_w (v := (-1 : Int64)) C dX10_odds_34 t_4_98 ?_
      exact r_lreturn C dX10_odds_37 (rt_e hF)
    · have hF := if_f h31 hF
      refine r_iload_n C 3 3 dX10_odds_14 rfl rfl ?_
      refine r_iconst (v := (0 : Int32)) C dX10_odds_15 rfl ?_
      refine r_bipush (v := (10 : Int32)) C dX10_odds_16 rfl ?_
      obtain ⟨r8, σ7, e9, hF⟩ := bd_e hF
      refine r_callS_i (as := [vI a3, vI (0 : Int32), vI (10 : Int32)]) (st := []) C dX10_odds_18 (s_X10_within G l e9) t_2_141 t_2_142 t_1_1 t_2_143 m_X10_within ⟨Nat.le_of_ble_eq_true rfl, Nat.le_of_ble_eq_true rfl⟩ ⟨rfl, rfl⟩ ⟨Nat.zero_le _, Nat.zero_le _⟩ rfl (Nat.le_of_ble_eq_true rfl) ?_
      refine r_if_eq C 34 dX10_odds_21 (by decide)  (fun h30 => ?_) (fun h30 => ?_)
      · have hF := if_t h30 hF
        refine r_ldc2_w (v := (-1 : Int64)) C dX10_odds_34 t_4_98 ?_
        exact r_lreturn C dX10_odds_37 (rt_e hF)
      · have hF := if_f h30 hF
        refine r_iload C 4 dX10_odds_24 rfl ?_
        refine r_iconst (v := (0 : Int32)) C dX10_odds_26 rfl ?_
        refine r_iconst (v := (1 : Int32)) C dX10_odds_27 rfl ?_
        obtain ⟨r11, σ10, e12, hF⟩ := bd_e hF
        refine r_callS_i (as := [vI a4, vI (0 : Int32), vI (1 : Int32)]) (st := []) C dX10_odds_28 (s_X10_within G l e12) t_2_141 t_2_142 t_1_1 t_2_143 m_X10_within ⟨Nat.le_of_ble_eq_true rfl, Nat.le_of_ble_eq_true rfl⟩ ⟨rfl, rfl⟩ ⟨Nat.zero_le _, Nat.zero_le _⟩ rfl (Nat.le_of_ble_eq_true rfl) ?_
        refine r_if_ne C 38 dX10_odds_31 (by decide)  (fun h29 => ?_) (fun h29 => ?_)
        · have hF := if_f h29 hF
          refine r_aload_n C 0 0 dX10_odds_38 rfl rfl ?_
          refine r_getR (kf := 4) (d2 := (7, 0, 0)) C dX10_odds_39 rfl rfl f_X10 (by decide) t_2_100 rfl rfl ?_
          refine r_iload_n C 1 1 dX10_odds_42 rfl rfl ?_
          obtain ⟨r14, σ13, e15, hF⟩ := bd_e hF
          refine r_callV_i (as := [vI a1]) (st := []) C dX10_odds_43 (s_X6_kindAt G l e15) rfl rfl rfl t_3_121 t_3_122 t_3_123 t_1_5 t_3_124 m_X6_kindAt ⟨Nat.le_of_ble_eq_true rfl, Nat.le_of_ble_eq_true rfl⟩ ⟨rfl, rfl⟩ ⟨Nat.zero_le _, Nat.zero_le _⟩ rfl (Nat.le_of_ble_eq_true rfl) ?_
          refine r_iconst (v := (5 : Int32)) C dX10_odds_46 rfl ?_
          refine r_icmp_ne C 54 dX10_odds_47 (by decide)  (fun h28 => ?_) (fun h28 => ?_)
          · have hF := if_f h28 hF
            refine r_aload_n C 0 0 dX10_odds_54 rfl rfl ?_
            refine r_getR (kf := 8) (d2 := (18, 0, 0)) C dX10_odds_55 rfl rfl f_X10 (by decide) t_2_104 rfl rfl ?_
            refine r_aload_n C 0 0 dX10_odds_58 rfl rfl ?_
            refine r_getR (kf := 4) (d2 := (7, 0, 0)) C dX10_odds_59 rfl rfl f_X10 (by decide) t_2_100 rfl rfl ?_
            refine r_iload_n C 1 1 dX10_odds_62 rfl rfl ?_
            refine r_iload_n C 2 2 dX10_odds_63 rfl rfl ?_
            refine r_iload_n C 3 3 dX10_odds_64 rfl rfl ?_
            obtain ⟨r17, σ16, e18, hF⟩ := bd_e hF
            refine r_callV_l (as := [vR (7, 0, 0), vI a1, vI a2, vI a3]) (st := []) C dX10_odds_65 (s_X4_beenIn G l e18) rfl rfl rfl t_4_163 t_4_164 t_4_165 t_1_10 t_4_166 m_X4_beenIn ⟨Nat.le_of_ble_eq_true rfl, Nat.le_of_ble_eq_true rfl⟩ ⟨rfl, rfl⟩ ⟨Nat.zero_le _, Nat.zero_le _⟩ rfl (Nat.le_of_ble_eq_true rfl) ?_
            refine r_lstore (ls2 := [(5, vL r17), (0, vR (0, 0, 0)), (1, vI a1), (2, vI a2), (3, vI a3), (4, vI a4)]) C dX10_odds_68 (by decide) rfl ?_
            refine r_lconst (v := (1 : Int64)) C dX10_odds_70 rfl ?_
            refine r_iconst (v := (2 : Int32)) C dX10_odds_71 rfl ?_
            refine r_iload_n C 4 3 dX10_odds_72 rfl rfl ?_
            refine r_imul C dX10_odds_73 ?_
            refine r_lshl C dX10_odds_74 ?_
            refine r_lstore (ls2 := [(7, vL ((1 : Int64) <<< (((2 : Int32) * a3).toInt64 &&& 63))), (5, vL r17), (0, vR (0, 0, 0)), (1, vI a1), (2, vI a2), (3, vI a3), (4, vI a4)]) C dX10_odds_75 (by decide) rfl ?_
            refine r_iconst (v := (0 : Int32)) C dX10_odds_77 rfl ?_
            refine r_istore (ls2 := [(9, vI (0 : Int32)), (7, vL ((1 : Int64) <<< (((2 : Int32) * a3).toInt64 &&& 63))), (5, vL r17), (0, vR (0, 0, 0)), (1, vI a1), (2, vI a2), (3, vI a3), (4, vI a4)]) C dX10_odds_78 (by decide) rfl ?_
            refine r_drop (ls2 := [(3, vI a3), (4, vI a4), (5, vL r17), (7, vL ((1 : Int64) <<< (((2 : Int32) * a3).toInt64 &&& 63))), (9, vI (0 : Int32))]) [6, 7, 2, 1, 0] rfl ?_
            refine l_X10_odds_80 C a3 a4 _ ?_ _ _ _ _ _ hF
            · intro y25 y26 σ24 hF
              refine r_iload C 0 dX10_odds_115 rfl ?_
              refine r_if_ne C 125 dX10_odds_117 (by decide)  (fun h27 => ?_) (fun h27 => ?_)
              · have hF := if_f h27 hF
                refine r_lload C 2 dX10_odds_125 rfl ?_
                exact r_lreturn C dX10_odds_127 (rt_e hF)
              · have hF := if_t h27 hF
                refine r_lload C 1 dX10_odds_120 rfl ?_
                refine r_goto C 127 dX10_odds_122 (by decide) ?_
                exact r_lreturn C dX10_odds_127 (rt_e hF)
          · have hF := if_t h28 hF
            refine r_ldc2_w (v := (-2 : Int64)) C dX10_odds_50 t_4_99 ?_
            exact r_lreturn C dX10_odds_53 (rt_e hF)
        · have hF := if_t h29 hF
          refine r_ldc2_w (v := (-1 : Int64)) C dX10_odds_34 t_4_98 ?_
          exact r_lreturn C dX10_odds_37 (rt_e hF)
def L_X10_cools_37 (c2 : Int32) (c3 : Int32) : Nat → Int32 → Int32 → Int32 → Int32 → St → (Int32 → Int32 → St → Option (Int32 × St)) → Option (Int32 × St)
  | 0, _, _, _, _, _, _ => none
  | n + 1, v4, v5, v6, v7, τ, kx99 =>
  (if (99 : Int32) < v7 then kx99 v5 v6 τ else (if v4 ≤ c2 then kx99 v5 v6 τ else bd (F_X5_floatsAt 0 v4 (0 : Int32) τ) fun r11 σ10 => nam (fun (y13 : Int32) (y14 : Int32) (σ16 : St) => nam (v5 + (1 : Int32)) fun x17 => nam (v7 + (1 : Int32)) fun x18 => L_X10_cools_37 c2 c3 n y13 x17 y14 x18 σ16 kx99) fun k15 => (if r11 = 0 then bd (F_X5_lossTouching 0 v4 σ10) fun r20 σ19 => nam (if (0 : Int32) < (v4 - r20) then (v4 - r20) else (0 : Int32)) fun x22 => k15 x22 v6 σ19 else nam (v6 + (1 : Int32)) fun x23 => nam (v4 + (-1 : Int32)) fun x24 => k15 x24 x23 σ10)))
def F_X10_cools (a1 : Int32) (a2 : Int32) (a3 : Int32) (σ : St) : Option (Int32 × St) :=
  bd (F_X10_isHeat a1 σ) fun r2 σ1 => (if r2 = 0 then some ((-1 : Int32), σ1) else bd (F_X10_isHeat a2 σ1) fun r5 σ4 => (if r5 = 0 then some ((-1 : Int32), σ4) else bd (F_X10_within a3 (0 : Int32) (1 : Int32) σ4) fun r8 σ7 => (if r8 = 0 then some ((-1 : Int32), σ7) else L_X10_cools_37 a2 a3 FU a1 (0 : Int32) (0 : Int32) (0 : Int32) σ7 (fun (y29 : Int32) (y30 : Int32) (σ28 : St) => (if a3 = 0 then some (y29, σ28) else some (y30, σ28))))))
set_option maxRecDepth 20000 in
set_option maxHeartbeats 4000000 in
theorem l_X10_cools_37 {G : Gx} {p : Program} {l : Launch} {e : Env} {s : State} {m : MethodId} {args : Array Value} {below : List Frame} {meth : Method} {c : Code} (C : Cx G p s m args meth c (some .int) 8 RX10 cX10_cools) (c2 : Int32) (c3 : Int32) {σ' : St} {r : Int32} (kx99 : Int32 → Int32 → St → Option (Int32 × St)) (hkx99 : ∀ (w5 : Int32) (w6 : Int32) (τ : St), kx99 w5 w6 τ = some (r, σ') → Rt G p l e (lvl 2) s m args below meth c 0 0 (MQ below (va_Qi (fun a b => a = r ∧ b = σ') (Wd G) (AG G)) args s 0 0 (AG G)) 8 99 [(3, vI c3), (5, vI w5), (6, vI w6)] [] τ) : ∀ (n : Nat) (v4 : Int32) (v5 : Int32) (v6 : Int32) (v7 : Int32) (τ : St), L_X10_cools_37 c2 c3 n v4 v5 v6 v7 τ kx99 = some (r, σ') → Rt G p l e (lvl 2) s m args below meth c 0 0 (MQ below (va_Qi (fun a b => a = r ∧ b = σ') (Wd G) (AG G)) args s 0 0 (AG G)) 8 37 [(0, vR (0, 0, 0)), (2, vI c2), (3, vI c3), (4, vI v4), (5, vI v5), (6, vI v6), (7, vI v7)] [] τ := by
  intro n
  induction n with
  | zero => intro v4 v5 v6 v7 τ hF; cases hF
  | succ n ih =>
    intro v4 v5 v6 v7 τ hF
    unfold L_X10_cools_37 at hF
    refine r_iload C 6 dX10_cools_37 rfl ?_
    refine r_bipush (v := (99 : Int32)) C dX10_cools_39 rfl ?_
    refine r_icmp_gt C 99 dX10_cools_41 (by decide)  (fun h27 => ?_) (fun h27 => ?_)
    · have hF := if_t h27 hF
      refine r_drop (ls2 := [(3, vI c3), (5, vI v5), (6, vI v6)]) [2, 4, 5] rfl ?_
      exact hkx99 _ _ _ hF
    · have hF := if_f h27 hF
      refine r_iload C 3 dX10_cools_44 rfl ?_
      refine r_iload_n C 1 2 dX10_cools_46 rfl rfl ?_
      refine r_icmp_le C 99 dX10_cools_47 (by decide)  (fun h26 => ?_) (fun h26 => ?_)
      · have hF := if_t h26 hF
        refine r_drop (ls2 := [(3, vI c3), (5, vI v5), (6, vI v6)]) [2, 4, 5] rfl ?_
        exact hkx99 _ _ _ hF
      · have hF := if_f h26 hF
        refine r_aload_n C 0 0 dX10_cools_50 rfl rfl ?_
        refine r_getR (kf := 3) (d2 := (3, 0, 0)) C dX10_cools_51 rfl rfl f_X10 (by decide) t_2_99 rfl rfl ?_
        refine r_iload C 3 dX10_cools_54 rfl ?_
        refine r_iconst (v := (0 : Int32)) C dX10_cools_56 rfl ?_
        obtain ⟨r11, σ10, e12, hF⟩ := bd_e hF
        refine r_callV_i (as := [vI v4, vI (0 : Int32)]) (st := []) C dX10_cools_57 (s_X5_floatsAt G l e12) rfl rfl rfl t_3_140 t_3_141 t_3_142 t_1_3 t_3_143 m_X5_floatsAt ⟨Nat.le_of_ble_eq_true rfl, Nat.le_of_ble_eq_true rfl⟩ ⟨rfl, rfl⟩ ⟨Nat.zero_le _, Nat.zero_le _⟩ rfl (Nat.le_of_ble_eq_true rfl) ?_
        obtain ⟨k15, ek15, hF⟩ := nam_e hF
        have hk15 : ∀ (y13 : Int32) (y14 : Int32) (σ16 : St), k15 y13 y14 σ16 = some (r, σ') → Rt G p l e (lvl 2) s m args below meth c 0 0 (MQ below (va_Qi (fun a b => a = r ∧ b = σ') (Wd G) (AG G)) args s 0 0 (AG G)) 8 90 [(0, vR (0, 0, 0)), (2, vI c2), (3, vI c3), (4, vI y13), (5, vI v5), (6, vI y14), (7, vI v7)] [] σ16 := by
          intro y13 y14 σ16 hF
          subst ek15
          obtain ⟨x17, ex17, hF⟩ := nam_e hF
          refine r_iinc (v := x17) (ls2 := [(5, vI x17), (0, vR (0, 0, 0)), (2, vI c2), (3, vI c3), (4, vI y13), (6, vI y14), (7, vI v7)]) C 4 dX10_cools_90 rfl ex17.symm (by decide) rfl ?_
          obtain ⟨x18, ex18, hF⟩ := nam_e hF
          refine r_iinc (v := x18) (ls2 := [(7, vI x18), (5, vI x17), (0, vR (0, 0, 0)), (2, vI c2), (3, vI c3), (4, vI y13), (6, vI y14)]) C 6 dX10_cools_93 rfl ex18.symm (by decide) rfl ?_
          refine r_goto C 37 dX10_cools_96 (by decide) ?_
          refine r_drop (ls2 := [(0, vR (0, 0, 0)), (2, vI c2), (3, vI c3), (4, vI y13), (5, vI x17), (6, vI y14), (7, vI x18)]) [2, 3, 4, 5, 1, 6, 0] rfl ?_
          exact ih _ _ _ _ _ hF
        refine r_if_eq C 72 dX10_cools_60 (by decide)  (fun h25 => ?_) (fun h25 => ?_)
        · have hF := if_t h25 hF
          refine r_iconst (v := (0 : Int32)) C dX10_cools_72 rfl ?_
          refine r_iload C 3 dX10_cools_73 rfl ?_
          refine r_aload_n C 0 0 dX10_cools_75 rfl rfl ?_
          refine r_getR (kf := 3) (d2 := (3, 0, 0)) C dX10_cools_76 rfl rfl f_X10 (by decide) t_2_99 rfl rfl ?_
          refine r_iload C 3 dX10_cools_79 rfl ?_
          obtain ⟨r20, σ19, e21, hF⟩ := bd_e hF
          refine r_callV_i (as := [vI v4]) (st := [vI v4, vI (0 : Int32)]) C dX10_cools_81 (s_X5_lossTouching G l e21) rfl rfl rfl t_4_191 t_3_187 t_3_188 t_1_3 t_3_189 m_X5_lossTouching ⟨Nat.le_of_ble_eq_true rfl, Nat.le_of_ble_eq_true rfl⟩ ⟨rfl, rfl⟩ ⟨Nat.zero_le _, Nat.zero_le _⟩ rfl (Nat.le_of_ble_eq_true rfl) ?_
          refine r_isub C dX10_cools_84 ?_
          refine r_max C dX10_cools_85 t_4_192 t_3_14 t_1_15 t_3_15 ⟨Nat.le_of_ble_eq_true rfl, Nat.le_of_ble_eq_true rfl⟩ ⟨Nat.zero_le _, Nat.zero_le _⟩ ?_
          obtain ⟨x22, ex22, hF⟩ := nam_e hF
          refine r_topI ex22 ?_
          refine r_istore (ls2 := [(4, vI x22), (0, vR (0, 0, 0)), (2, vI c2), (3, vI c3), (5, vI v5), (6, vI v6), (7, vI v7)]) C dX10_cools_88 (by decide) rfl ?_
          refine r_drop (ls2 := [(0, vR (0, 0, 0)), (2, vI c2), (3, vI c3), (4, vI x22), (5, vI v5), (6, vI v6), (7, vI v7)]) [1, 2, 3, 0, 4, 5, 6] rfl ?_
          exact hk15 _ _ _ hF
        · have hF := if_f h25 hF
          obtain ⟨x23, ex23, hF⟩ := nam_e hF
          refine r_iinc (v := x23) (ls2 := [(6, vI x23), (0, vR (0, 0, 0)), (2, vI c2), (3, vI c3), (4, vI v4), (5, vI v5), (7, vI v7)]) C 5 dX10_cools_63 rfl ex23.symm (by decide) rfl ?_
          obtain ⟨x24, ex24, hF⟩ := nam_e hF
          refine r_iinc (v := x24) (ls2 := [(4, vI x24), (6, vI x23), (0, vR (0, 0, 0)), (2, vI c2), (3, vI c3), (5, vI v5), (7, vI v7)]) C 4 dX10_cools_66 rfl ex24.symm (by decide) rfl ?_
          refine r_goto C 90 dX10_cools_69 (by decide) ?_
          refine r_drop (ls2 := [(0, vR (0, 0, 0)), (2, vI c2), (3, vI c3), (4, vI x24), (5, vI v5), (6, vI x23), (7, vI v7)]) [2, 3, 4, 0, 5, 1, 6] rfl ?_
          exact hk15 _ _ _ hF
set_option maxRecDepth 20000 in
set_option maxHeartbeats 4000000 in
theorem s_X10_cools (G : Gx) (l : Launch) {a1 : Int32} {a2 : Int32} {a3 : Int32} {σ σ' : St} {r : Int32} (hF : F_X10_cools a1 a2 a3 σ = some (r, σ')) : Sp G l yX10_cools cX10_cools 8 (some .int) (lvl 2) [vR (0, 0, 0), vI a1, vI a2, vI a3] σ (va_Qi (fun a b => a = r ∧ b = σ') (Wd G) (AG G)) := by
  refine Sp_of (own := RX10) (by decide) rfl (Nat.le_of_ble_eq_true rfl) ?_
  intro p e s m args below meth c C
  show Rt G p l e (lvl 2) s m args below meth c 0 0 (MQ below (va_Qi (fun a b => a = r ∧ b = σ') (Wd G) (AG G)) args s 0 0 (AG G)) 8 0 [(0, vR (0, 0, 0)), (1, vI a1), (2, vI a2), (3, vI a3)] [] σ
  unfold F_X10_cools at hF
  refine r_iload_n C 1 1 dX10_cools_0 rfl rfl ?_
  obtain ⟨r2, σ1, e3, hF⟩ := bd_e hF
  refine r_callS_i (as := [vI a1]) (st := []) C dX10_cools_1 (s_X10_isHeat G l e3) t_3_137 t_3_138 t_1_1 t_3_139 m_X10_isHeat ⟨Nat.le_of_ble_eq_true rfl, Nat.le_of_ble_eq_true rfl⟩ ⟨rfl, rfl⟩ ⟨Nat.zero_le _, Nat.zero_le _⟩ rfl (Nat.le_of_ble_eq_true rfl) ?_
  refine r_if_eq C 23 dX10_cools_4 (by decide)  (fun h34 => ?_) (fun h34 => ?_)
  · have hF := if_t h34 hF
    refine r_iconst (v := (-1 : Int32)) C dX10_cools_23 rfl ?_
    exact r_ireturn C dX10_cools_24 (rt_e hF)
  · have hF := if_f h34 hF
    refine r_iload_n C 2 2 dX10_cools_7 rfl rfl ?_
    obtain ⟨r5, σ4, e6, hF⟩ := bd_e hF
    refine r_callS_i (as := [vI a2]) (st := []) C dX10_cools_8 (s_X10_isHeat G l e6) t_3_137 t_3_138 t_1_1 t_3_139 m_X10_isHeat ⟨Nat.le_of_ble_eq_true rfl, Nat.le_of_ble_eq_true rfl⟩ ⟨rfl, rfl⟩ ⟨Nat.zero_le _, Nat.zero_le _⟩ rfl (Nat.le_of_ble_eq_true rfl) ?_
    refine r_if_eq C 23 dX10_cools_11 (by decide)  (fun h33 => ?_) (fun h33 => ?_)
    · have hF := if_t h33 hF
      refine r_iconst (v := (-1 : Int32)) C dX10_cools_23 rfl ?_
      exact r_ireturn C dX10_cools_24 (rt_e hF)
    · have hF := if_f h33 hF
      refine r_iload_n C 3 3 dX10_cools_14 rfl rfl ?_
      refine r_iconst (v := (0 : Int32)) C dX10_cools_15 rfl ?_
      refine r_iconst (v := (1 : Int32)) C dX10_cools_16 rfl ?_
      obtain ⟨r8, σ7, e9, hF⟩ := bd_e hF
      refine r_callS_i (as := [vI a3, vI (0 : Int32), vI (1 : Int32)]) (st := []) C dX10_cools_17 (s_X10_within G l e9) t_2_141 t_2_142 t_1_1 t_2_143 m_X10_within ⟨Nat.le_of_ble_eq_true rfl, Nat.le_of_ble_eq_true rfl⟩ ⟨rfl, rfl⟩ ⟨Nat.zero_le _, Nat.zero_le _⟩ rfl (Nat.le_of_ble_eq_true rfl) ?_
      refine r_if_ne C 25 dX10_cools_20 (by decide)  (fun h32 => ?_) (fun h32 => ?_)
      · have hF := if_f h32 hF
        refine r_iload_n C 1 1 dX10_cools_25 rfl rfl ?_
        refine r_istore (ls2 := [(4, vI a1), (0, vR (0, 0, 0)), (1, vI a1), (2, vI a2), (3, vI a3)]) C dX10_cools_26 (by decide) rfl ?_
        refine r_iconst (v := (0 : Int32)) C dX10_cools_28 rfl ?_
        refine r_istore (ls2 := [(5, vI (0 : Int32)), (4, vI a1), (0, vR (0, 0, 0)), (1, vI a1), (2, vI a2), (3, vI a3)]) C dX10_cools_29 (by decide) rfl ?_
        refine r_iconst (v := (0 : Int32)) C dX10_cools_31 rfl ?_
        refine r_istore (ls2 := [(6, vI (0 : Int32)), (5, vI (0 : Int32)), (4, vI a1), (0, vR (0, 0, 0)), (1, vI a1), (2, vI a2), (3, vI a3)]) C dX10_cools_32 (by decide) rfl ?_
        refine r_iconst (v := (0 : Int32)) C dX10_cools_34 rfl ?_
        refine r_istore (ls2 := [(7, vI (0 : Int32)), (6, vI (0 : Int32)), (5, vI (0 : Int32)), (4, vI a1), (0, vR (0, 0, 0)), (1, vI a1), (2, vI a2), (3, vI a3)]) C dX10_cools_35 (by decide) rfl ?_
        refine r_drop (ls2 := [(0, vR (0, 0, 0)), (2, vI a2), (3, vI a3), (4, vI a1), (5, vI (0 : Int32)), (6, vI (0 : Int32)), (7, vI (0 : Int32))]) [4, 6, 7, 3, 2, 1, 0] rfl ?_
        refine l_X10_cools_37 C a2 a3 _ ?_ _ _ _ _ _ _ hF
        · intro y29 y30 σ28 hF
          refine r_iload_n C 0 3 dX10_cools_99 rfl rfl ?_
          refine r_if_ne C 108 dX10_cools_100 (by decide)  (fun h31 => ?_) (fun h31 => ?_)
          · have hF := if_f h31 hF
            refine r_iload C 2 dX10_cools_108 rfl ?_
            exact r_ireturn C dX10_cools_110 (rt_e hF)
          · have hF := if_t h31 hF
            refine r_iload C 1 dX10_cools_103 rfl ?_
            refine r_goto C 110 dX10_cools_105 (by decide) ?_
            exact r_ireturn C dX10_cools_110 (rt_e hF)
      · have hF := if_t h32 hF
        refine r_iconst (v := (-1 : Int32)) C dX10_cools_23 rfl ?_
        exact r_ireturn C dX10_cools_24 (rt_e hF)
def F_X9_tell (a1 : Int32) (a2 : Int32) (a3 : Int32) (a4 : Int32) (σ : St) : Option (Int32 × St) :=
  (if (σ.1 (20, 0, 0) 4) < (12 : Int32) then ck (inb (σ.1 (20, 0, 0) 4) 12) (nam (uI σ (21, 0, 0) ((σ.1 (20, 0, 0) 4).toNatClampNeg) a1) fun σ2 => ck (inb (σ2.1 (20, 0, 0) 4) 12) (nam (uI σ2 (22, 0, 0) ((σ2.1 (20, 0, 0) 4).toNatClampNeg) a2) fun σ4 => ck (inb (σ4.1 (20, 0, 0) 4) 12) (nam (uI σ4 (24, 0, 0) ((σ4.1 (20, 0, 0) 4).toNatClampNeg) (vp_nar .boolean a3)) fun σ6 => ck (inb (σ6.1 (20, 0, 0) 4) 12) (nam (uI σ6 (23, 0, 0) ((σ6.1 (20, 0, 0) 4).toNatClampNeg) a4) fun σ8 => nam (uI σ8 (20, 0, 0) 4 ((σ8.1 (20, 0, 0) 4) + (1 : Int32))) fun σ9 => some ((1 : Int32), σ9))))) else some ((0 : Int32), σ))
set_option maxRecDepth 20000 in
set_option maxHeartbeats 4000000 in
theorem s_X9_tell (G : Gx) (l : Launch) {a1 : Int32} {a2 : Int32} {a3 : Int32} {a4 : Int32} {σ σ' : St} {r : Int32} (hF : F_X9_tell a1 a2 a3 a4 σ = some (r, σ')) : Sp G l yX9_tell cX9_tell 5 (some .boolean) (lvl 0) [vR (20, 0, 0), vI a1, vI a2, vI a3, vI a4] σ (va_Qi (fun a b => a = r ∧ b = σ') (Wd G) (AG G)) := by
  refine Sp_of (own := RX9) (by decide) rfl (Nat.le_of_ble_eq_true rfl) ?_
  intro p e s m args below meth c C
  show Rt G p l e (lvl 0) s m args below meth c 0 0 (MQ below (va_Qi (fun a b => a = r ∧ b = σ') (Wd G) (AG G)) args s 0 0 (AG G)) 5 0 [(0, vR (20, 0, 0)), (1, vI a1), (2, vI a2), (3, vI a3), (4, vI a4)] [] σ
  unfold F_X9_tell at hF
  refine r_aload_n C 0 0 dX9_tell_0 rfl rfl ?_
  refine r_getI (kf := 4) C dX9_tell_1 rfl rfl f_X9 (by decide) t_2_48 rfl ?_
  refine r_bipush (v := (12 : Int32)) C dX9_tell_4 rfl ?_
  refine r_icmp_lt C 11 dX9_tell_6 (by decide)  (fun h10 => ?_) (fun h10 => ?_)
  · have hF := if_t h10 hF
    refine r_aload_n C 0 0 dX9_tell_11 rfl rfl ?_
    refine r_getR (kf := 0) (d2 := (21, 0, 0)) C dX9_tell_12 rfl rfl f_X9 (by decide) t_2_44 rfl rfl ?_
    refine r_aload_n C 0 0 dX9_tell_15 rfl rfl ?_
    refine r_getI (kf := 4) C dX9_tell_16 rfl rfl f_X9 (by decide) t_2_48 rfl ?_
    refine r_iload_n C 1 1 dX9_tell_19 rfl rfl ?_
    obtain ⟨h1, hF⟩ := ck_e hF
    obtain ⟨σ2, eσ2, hF⟩ := nam_e hF
    refine r_iastore C ((σ.1 (20, 0, 0) 4).toNatClampNeg) dX9_tell_20 rfl h1 rfl eσ2 ?_
    refine r_aload_n C 0 0 dX9_tell_21 rfl rfl ?_
    refine r_getR (kf := 1) (d2 := (22, 0, 0)) C dX9_tell_22 rfl rfl f_X9 (by decide) t_2_45 rfl rfl ?_
    refine r_aload_n C 0 0 dX9_tell_25 rfl rfl ?_
    refine r_getI (kf := 4) C dX9_tell_26 rfl rfl f_X9 (by decide) t_2_48 rfl ?_
    refine r_iload_n C 2 2 dX9_tell_29 rfl rfl ?_
    obtain ⟨h3, hF⟩ := ck_e hF
    obtain ⟨σ4, eσ4, hF⟩ := nam_e hF
    refine r_iastore C ((σ2.1 (20, 0, 0) 4).toNatClampNeg) dX9_tell_30 rfl h3 rfl eσ4 ?_
    refine r_aload_n C 0 0 dX9_tell_31 rfl rfl ?_
    refine r_getR (kf := 3) (d2 := (24, 0, 0)) C dX9_tell_32 rfl rfl f_X9 (by decide) t_2_47 rfl rfl ?_
    refine r_aload_n C 0 0 dX9_tell_35 rfl rfl ?_
    refine r_getI (kf := 4) C dX9_tell_36 rfl rfl f_X9 (by decide) t_2_48 rfl ?_
    refine r_iload_n C 3 3 dX9_tell_39 rfl rfl ?_
    obtain ⟨h5, hF⟩ := ck_e hF
    obtain ⟨σ6, eσ6, hF⟩ := nam_e hF
    refine r_zastore C ((σ4.1 (20, 0, 0) 4).toNatClampNeg) dX9_tell_40 rfl h5 rfl eσ6 ?_
    refine r_aload_n C 0 0 dX9_tell_41 rfl rfl ?_
    refine r_getR (kf := 2) (d2 := (23, 0, 0)) C dX9_tell_42 rfl rfl f_X9 (by decide) t_2_46 rfl rfl ?_
    refine r_aload_n C 0 0 dX9_tell_45 rfl rfl ?_
    refine r_getI (kf := 4) C dX9_tell_46 rfl rfl f_X9 (by decide) t_2_48 rfl ?_
    refine r_iload C 4 dX9_tell_49 rfl ?_
    obtain ⟨h7, hF⟩ := ck_e hF
    obtain ⟨σ8, eσ8, hF⟩ := nam_e hF
    refine r_iastore C ((σ6.1 (20, 0, 0) 4).toNatClampNeg) dX9_tell_51 rfl h7 rfl eσ8 ?_
    refine r_aload_n C 0 0 dX9_tell_52 rfl rfl ?_
    refine r_dup_r C dX9_tell_53 ?_
    refine r_getI (kf := 4) C dX9_tell_54 rfl rfl f_X9 (by decide) t_2_48 rfl ?_
    refine r_iconst (v := (1 : Int32)) C dX9_tell_57 rfl ?_
    refine r_iadd C dX9_tell_58 ?_
    obtain ⟨σ9, eσ9, hF⟩ := nam_e hF
    refine r_put (kf := 4) (ty0 := tyX9) C dX9_tell_59 rfl rfl f_X9 tyX9_ok nmX9 (by decide) t_2_48 rfl rfl rfl rfl eσ9 ?_
    refine r_iconst (v := (1 : Int32)) C dX9_tell_62 rfl ?_
    exact r_zreturn C dX9_tell_63 (nar_z (Or.inr rfl)) (rt_e hF)
  · have hF := if_f h10 hF
    refine r_iconst (v := (0 : Int32)) C dX9_tell_9 rfl ?_
    exact r_zreturn C dX9_tell_10 (nar_z (Or.inl rfl)) (rt_e hF)
def F_X10_saw (a1 : Int32) (a2 : Int32) (a3 : Int32) (a4 : Int32) (σ : St) : Option (Int32 × St) :=
  bd (F_X10_isSize a1 σ) fun r2 σ1 => (if r2 = 0 then some ((-1 : Int32), σ1) else bd (F_X10_isHeat a2 σ1) fun r5 σ4 => (if r5 = 0 then some ((-1 : Int32), σ4) else bd (F_X10_within a4 (0 : Int32) (999 : Int32) σ4) fun r8 σ7 => (if r8 = 0 then some ((-1 : Int32), σ7) else bd (F_X9_tell a1 a2 a3 a4 σ7) fun r11 σ10 => (if r11 = 0 then some ((-3 : Int32), σ10) else some (σ10.1 (20, 0, 0) 4, σ10)))))
set_option maxRecDepth 20000 in
set_option maxHeartbeats 4000000 in
theorem s_X10_saw (G : Gx) (l : Launch) {a1 : Int32} {a2 : Int32} {a3 : Int32} {a4 : Int32} {σ σ' : St} {r : Int32} (hF : F_X10_saw a1 a2 a3 a4 σ = some (r, σ')) : Sp G l yX10_saw cX10_saw 5 (some .int) (lvl 2) [vR (0, 0, 0), vI a1, vI a2, vI a3, vI a4] σ (va_Qi (fun a b => a = r ∧ b = σ') (Wd G) (AG G)) := by
  refine Sp_of (own := RX10) (by decide) rfl (Nat.le_of_ble_eq_true rfl) ?_
  intro p e s m args below meth c C
  show Rt G p l e (lvl 2) s m args below meth c 0 0 (MQ below (va_Qi (fun a b => a = r ∧ b = σ') (Wd G) (AG G)) args s 0 0 (AG G)) 5 0 [(0, vR (0, 0, 0)), (1, vI a1), (2, vI a2), (3, vI a3), (4, vI a4)] [] σ
  unfold F_X10_saw at hF
  refine r_iload_n C 1 1 dX10_saw_0 rfl rfl ?_
  obtain ⟨r2, σ1, e3, hF⟩ := bd_e hF
  refine r_callS_i (as := [vI a1]) (st := []) C dX10_saw_1 (s_X10_isSize G l e3) t_3_155 t_3_156 t_1_1 t_3_157 m_X10_isSize ⟨Nat.le_of_ble_eq_true rfl, Nat.le_of_ble_eq_true rfl⟩ ⟨rfl, rfl⟩ ⟨Nat.zero_le _, Nat.zero_le _⟩ rfl (Nat.le_of_ble_eq_true rfl) ?_
  refine r_if_eq C 26 dX10_saw_4 (by decide)  (fun h16 => ?_) (fun h16 => ?_)
  · have hF := if_t h16 hF
    refine r_iconst (v := (-1 : Int32)) C dX10_saw_26 rfl ?_
    exact r_ireturn C dX10_saw_27 (rt_e hF)
  · have hF := if_f h16 hF
    refine r_iload_n C 2 2 dX10_saw_7 rfl rfl ?_
    obtain ⟨r5, σ4, e6, hF⟩ := bd_e hF
    refine r_callS_i (as := [vI a2]) (st := []) C dX10_saw_8 (s_X10_isHeat G l e6) t_3_137 t_3_138 t_1_1 t_3_139 m_X10_isHeat ⟨Nat.le_of_ble_eq_true rfl, Nat.le_of_ble_eq_true rfl⟩ ⟨rfl, rfl⟩ ⟨Nat.zero_le _, Nat.zero_le _⟩ rfl (Nat.le_of_ble_eq_true rfl) ?_
    refine r_if_eq C 26 dX10_saw_11 (by decide)  (fun h15 => ?_) (fun h15 => ?_)
    · have hF := if_t h15 hF
      refine r_iconst (v := (-1 : Int32)) C dX10_saw_26 rfl ?_
      exact r_ireturn C dX10_saw_27 (rt_e hF)
    · have hF := if_f h15 hF
      refine r_iload C 4 dX10_saw_14 rfl ?_
      refine r_iconst (v := (0 : Int32)) C dX10_saw_16 rfl ?_
      refine r_sipush (v := (999 : Int32)) C dX10_saw_17 rfl ?_
      obtain ⟨r8, σ7, e9, hF⟩ := bd_e hF
      refine r_callS_i (as := [vI a4, vI (0 : Int32), vI (999 : Int32)]) (st := []) C dX10_saw_20 (s_X10_within G l e9) t_2_141 t_2_142 t_1_1 t_2_143 m_X10_within ⟨Nat.le_of_ble_eq_true rfl, Nat.le_of_ble_eq_true rfl⟩ ⟨rfl, rfl⟩ ⟨Nat.zero_le _, Nat.zero_le _⟩ rfl (Nat.le_of_ble_eq_true rfl) ?_
      refine r_if_ne C 28 dX10_saw_23 (by decide)  (fun h14 => ?_) (fun h14 => ?_)
      · have hF := if_f h14 hF
        refine r_aload_n C 0 0 dX10_saw_28 rfl rfl ?_
        refine r_getR (kf := 9) (d2 := (20, 0, 0)) C dX10_saw_29 rfl rfl f_X10 (by decide) t_2_105 rfl rfl ?_
        refine r_iload_n C 1 1 dX10_saw_32 rfl rfl ?_
        refine r_iload_n C 2 2 dX10_saw_33 rfl rfl ?_
        refine r_iload_n C 3 3 dX10_saw_34 rfl rfl ?_
        refine r_iload C 4 dX10_saw_35 rfl ?_
        obtain ⟨r11, σ10, e12, hF⟩ := bd_e hF
        refine r_callV_i (as := [vI a1, vI a2, vI a3, vI a4]) (st := []) C dX10_saw_37 (s_X9_tell G l e12) rfl rfl rfl t_4_197 t_4_198 t_4_199 t_1_11 t_4_200 m_X9_tell ⟨Nat.le_of_ble_eq_true rfl, Nat.le_of_ble_eq_true rfl⟩ ⟨rfl, rfl⟩ ⟨Nat.zero_le _, Nat.zero_le _⟩ rfl (Nat.le_of_ble_eq_true rfl) ?_
        refine r_if_eq C 53 dX10_saw_40 (by decide)  (fun h13 => ?_) (fun h13 => ?_)
        · have hF := if_t h13 hF
          refine r_bipush (v := (-3 : Int32)) C dX10_saw_53 rfl ?_
          exact r_ireturn C dX10_saw_55 (rt_e hF)
        · have hF := if_f h13 hF
          refine r_aload_n C 0 0 dX10_saw_43 rfl rfl ?_
          refine r_getR (kf := 9) (d2 := (20, 0, 0)) C dX10_saw_44 rfl rfl f_X10 (by decide) t_2_105 rfl rfl ?_
          refine r_getI (kf := 4) C dX10_saw_47 rfl rfl f_X9 (by decide) t_2_49 rfl ?_
          refine r_goto C 55 dX10_saw_50 (by decide) ?_
          exact r_ireturn C dX10_saw_55 (rt_e hF)
      · have hF := if_t h14 hF
        refine r_iconst (v := (-1 : Int32)) C dX10_saw_26 rfl ?_
        exact r_ireturn C dX10_saw_27 (rt_e hF)
def F_X10_forget  (σ : St) : Option (Int32 × St) :=
  nam (σ.1 (20, 0, 0) 4) fun x1 => nam (uI σ (20, 0, 0) 4 (0 : Int32)) fun σ2 => some (x1, σ2)
set_option maxRecDepth 20000 in
set_option maxHeartbeats 4000000 in
theorem s_X10_forget (G : Gx) (l : Launch)  {σ σ' : St} {r : Int32} (hF : F_X10_forget  σ = some (r, σ')) : Sp G l yX10_forget cX10_forget 2 (some .int) (lvl 0) [vR (0, 0, 0)] σ (va_Qi (fun a b => a = r ∧ b = σ') (Wd G) (AG G)) := by
  refine Sp_of (own := RX10) (by decide) rfl (Nat.le_of_ble_eq_true rfl) ?_
  intro p e s m args below meth c C
  show Rt G p l e (lvl 0) s m args below meth c 0 0 (MQ below (va_Qi (fun a b => a = r ∧ b = σ') (Wd G) (AG G)) args s 0 0 (AG G)) 2 0 [(0, vR (0, 0, 0))] [] σ
  unfold F_X10_forget at hF
  refine r_aload_n C 0 0 dX10_forget_0 rfl rfl ?_
  refine r_getR (kf := 9) (d2 := (20, 0, 0)) C dX10_forget_1 rfl rfl f_X10 (by decide) t_2_105 rfl rfl ?_
  refine r_getI (kf := 4) C dX10_forget_4 rfl rfl f_X9 (by decide) t_2_49 rfl ?_
  obtain ⟨x1, ex1, hF⟩ := nam_e hF
  refine r_topI ex1 ?_
  refine r_istore_n (ls2 := [(1, vI x1), (0, vR (0, 0, 0))]) C dX10_forget_7 1 rfl (by decide) rfl ?_
  refine r_aload_n C 1 0 dX10_forget_8 rfl rfl ?_
  refine r_getR (kf := 9) (d2 := (20, 0, 0)) C dX10_forget_9 rfl rfl f_X10 (by decide) t_2_105 rfl rfl ?_
  refine r_iconst (v := (0 : Int32)) C dX10_forget_12 rfl ?_
  obtain ⟨σ2, eσ2, hF⟩ := nam_e hF
  refine r_put (kf := 4) (ty0 := tyX9) C dX10_forget_13 rfl rfl f_X9 tyX9_ok nmX9 (by decide) t_2_49 rfl rfl rfl rfl eσ2 ?_
  refine r_iload_n C 0 1 dX10_forget_16 rfl rfl ?_
  exact r_ireturn C dX10_forget_17 (rt_e hF)
def F_X9_isSo (a1 : Int32) (q2 : Nat) (a3 : Int32) (σ : St) : Option (Int32 × St) :=
  (if a1 < 0 then some ((0 : Int32), σ) else (if a1 < (σ.1 (20, 0, 0) 4) then ck (inb a1 12) (ck (inb a1 12) (nam (fun (y3 : Int32) (σ5 : St) => nam (fun (y6 : Int32) (σ8 : St) => ck (inb a1 12) (ck (inb a1 12) (bd (F_X5_lifeBy q2 (σ8.1 (21, 0, 0) (a1.toNatClampNeg)) (σ8.1 (22, 0, 0) (a1.toNatClampNeg)) y6 σ8) fun r12 σ11 => ck (inb a1 12) ((if r12 = (σ11.1 (23, 0, 0) (a1.toNatClampNeg)) then some ((1 : Int32), σ11) else some ((0 : Int32), σ11)))))) fun k7 => (if (σ.1 (22, 0, 0) (a1.toNatClampNeg)) < y3 then k7 (0 : Int32) σ5 else k7 (1 : Int32) σ5)) fun k4 => (if (σ.1 (24, 0, 0) (a1.toNatClampNeg)) = 0 then bd (F_X5_value q2 (1 : Int32) σ) fun r18 σ17 => k4 r18 σ17 else k4 a3 σ))) else some ((0 : Int32), σ)))
set_option maxRecDepth 20000 in
set_option maxHeartbeats 4000000 in
theorem s_X9_isSo (G : Gx) (l : Launch) {a1 : Int32} {q2 : Nat} {a3 : Int32} {σ σ' : St} {r : Int32} (hF : F_X9_isSo a1 q2 a3 σ = some (r, σ')) : Sp G l yX9_isSo cX9_isSo 5 (some .boolean) (lvl 4) [vR (20, 0, 0), vI a1, vR (3, q2, 0), vI a3] σ (va_Qi (fun a b => a = r ∧ b = σ') (Wd G) (AG G)) := by
  refine Sp_of (own := RX9) (by decide) rfl (Nat.le_of_ble_eq_true rfl) ?_
  intro p e s m args below meth c C
  show Rt G p l e (lvl 4) s m args below meth c 0 0 (MQ below (va_Qi (fun a b => a = r ∧ b = σ') (Wd G) (AG G)) args s 0 0 (AG G)) 5 0 [(0, vR (20, 0, 0)), (1, vI a1), (2, vR (3, q2, 0)), (3, vI a3)] [] σ
  unfold F_X9_isSo at hF
  refine r_iload_n C 1 1 dX9_isSo_0 rfl rfl ?_
  refine r_if_lt C 12 dX9_isSo_1 (by decide)  (fun h22 => ?_) (fun h22 => ?_)
  · have hF := if_t h22 hF
    refine r_iconst (v := (0 : Int32)) C dX9_isSo_12 rfl ?_
    exact r_zreturn C dX9_isSo_13 (nar_z (Or.inl rfl)) (rt_e hF)
  · have hF := if_f h22 hF
    refine r_iload_n C 1 1 dX9_isSo_4 rfl rfl ?_
    refine r_aload_n C 0 0 dX9_isSo_5 rfl rfl ?_
    refine r_getI (kf := 4) C dX9_isSo_6 rfl rfl f_X9 (by decide) t_2_48 rfl ?_
    refine r_icmp_lt C 14 dX9_isSo_9 (by decide)  (fun h21 => ?_) (fun h21 => ?_)
    · have hF := if_t h21 hF
      refine r_aload_n C 0 0 dX9_isSo_14 rfl rfl ?_
      refine r_getR (kf := 1) (d2 := (22, 0, 0)) C dX9_isSo_15 rfl rfl f_X9 (by decide) t_2_45 rfl rfl ?_
      refine r_iload_n C 1 1 dX9_isSo_18 rfl rfl ?_
      obtain ⟨h1, hF⟩ := ck_e hF
      refine r_iaload C (a1.toNatClampNeg) dX9_isSo_19 rfl h1 rfl ?_
      refine r_aload_n C 0 0 dX9_isSo_20 rfl rfl ?_
      refine r_getR (kf := 3) (d2 := (24, 0, 0)) C dX9_isSo_21 rfl rfl f_X9 (by decide) t_2_47 rfl rfl ?_
      refine r_iload_n C 1 1 dX9_isSo_24 rfl rfl ?_
      obtain ⟨h2, hF⟩ := ck_e hF
      refine r_zaload C (a1.toNatClampNeg) dX9_isSo_25 rfl h2 rfl ?_
      obtain ⟨k4, ek4, hF⟩ := nam_e hF
      have hk4 : ∀ (y3 : Int32) (σ5 : St), k4 y3 σ5 = some (r, σ') → Rt G p l e (lvl 4) s m args below meth c 0 0 (MQ below (va_Qi (fun a b => a = r ∧ b = σ') (Wd G) (AG G)) args s 0 0 (AG G)) 5 38 [(0, vR (20, 0, 0)), (1, vI a1), (2, vR (3, q2, 0))] [vI y3, vI (σ.1 (22, 0, 0) (a1.toNatClampNeg))] σ5 := by
        intro y3 σ5 hF
        subst ek4
        obtain ⟨k7, ek7, hF⟩ := nam_e hF
        have hk7 : ∀ (y6 : Int32) (σ8 : St), k7 y6 σ8 = some (r, σ') → Rt G p l e (lvl 4) s m args below meth c 0 0 (MQ below (va_Qi (fun a b => a = r ∧ b = σ') (Wd G) (AG G)) args s 0 0 (AG G)) 5 46 [(0, vR (20, 0, 0)), (1, vI a1), (2, vR (3, q2, 0))] [vI y6] σ8 := by
          intro y6 σ8 hF
          subst ek7
          refine r_istore (ls2 := [(4, vI y6), (0, vR (20, 0, 0)), (1, vI a1), (2, vR (3, q2, 0))]) C dX9_isSo_46 (by decide) rfl ?_
          refine r_aload_n C 3 2 dX9_isSo_48 rfl rfl ?_
          refine r_aload_n C 1 0 dX9_isSo_49 rfl rfl ?_
          refine r_getR (kf := 0) (d2 := (21, 0, 0)) C dX9_isSo_50 rfl rfl f_X9 (by decide) t_2_44 rfl rfl ?_
          refine r_iload_n C 2 1 dX9_isSo_53 rfl rfl ?_
          obtain ⟨h9, hF⟩ := ck_e hF
          refine r_iaload C (a1.toNatClampNeg) dX9_isSo_54 rfl h9 rfl ?_
          refine r_aload_n C 1 0 dX9_isSo_55 rfl rfl ?_
          refine r_getR (kf := 1) (d2 := (22, 0, 0)) C dX9_isSo_56 rfl rfl f_X9 (by decide) t_2_45 rfl rfl ?_
          refine r_iload_n C 2 1 dX9_isSo_59 rfl rfl ?_
          obtain ⟨h10, hF⟩ := ck_e hF
          refine r_iaload C (a1.toNatClampNeg) dX9_isSo_60 rfl h10 rfl ?_
          refine r_iload C 0 dX9_isSo_61 rfl ?_
          obtain ⟨r12, σ11, e13, hF⟩ := bd_e hF
          refine r_callV_i (as := [vI (σ8.1 (21, 0, 0) (a1.toNatClampNeg)), vI (σ8.1 (22, 0, 0) (a1.toNatClampNeg)), vI y6]) (st := []) C dX9_isSo_63 (s_X5_lifeBy G l e13) rfl rfl rfl t_4_220 t_4_124 t_4_125 t_1_3 t_4_126 m_X5_lifeBy ⟨Nat.le_of_ble_eq_true rfl, Nat.le_of_ble_eq_true rfl⟩ ⟨rfl, rfl⟩ ⟨Nat.zero_le _, Nat.zero_le _⟩ rfl (Nat.le_of_ble_eq_true rfl) ?_
          refine r_aload_n C 1 0 dX9_isSo_66 rfl rfl ?_
          refine r_getR (kf := 2) (d2 := (23, 0, 0)) C dX9_isSo_67 rfl rfl f_X9 (by decide) t_2_46 rfl rfl ?_
          refine r_iload_n C 2 1 dX9_isSo_70 rfl rfl ?_
          obtain ⟨h14, hF⟩ := ck_e hF
          refine r_iaload C (a1.toNatClampNeg) dX9_isSo_71 rfl h14 rfl ?_
          refine r_icmp_ne C 79 dX9_isSo_72 (by decide)  (fun h15 => ?_) (fun h15 => ?_)
          · have hF := if_f h15 hF
            refine r_iconst (v := (0 : Int32)) C dX9_isSo_79 rfl ?_
            exact r_zreturn C dX9_isSo_80 (nar_z (Or.inl rfl)) (rt_e hF)
          · have hF := if_t h15 hF
            refine r_iconst (v := (1 : Int32)) C dX9_isSo_75 rfl ?_
            refine r_goto C 80 dX9_isSo_76 (by decide) ?_
            exact r_zreturn C dX9_isSo_80 (nar_z (Or.inr rfl)) (rt_e hF)
        refine r_icmp_lt C 45 dX9_isSo_38 (by decide)  (fun h16 => ?_) (fun h16 => ?_)
        · have hF := if_t h16 hF
          refine r_iconst (v := (0 : Int32)) C dX9_isSo_45 rfl ?_
          exact hk7 _ _ hF
        · have hF := if_f h16 hF
          refine r_iconst (v := (1 : Int32)) C dX9_isSo_41 rfl ?_
          refine r_goto C 46 dX9_isSo_42 (by decide) ?_
          exact hk7 _ _ hF
      refine r_if_eq C 33 dX9_isSo_26 (by decide)  (fun h20 => ?_) (fun h20 => ?_)
      · have hF := if_t h20 hF
        refine r_aload_n C 2 2 dX9_isSo_33 rfl rfl ?_
        refine r_iconst (v := (1 : Int32)) C dX9_isSo_34 rfl ?_
        obtain ⟨r18, σ17, e19, hF⟩ := bd_e hF
        refine r_callV_i (as := [vI (1 : Int32)]) (st := [vI (σ.1 (22, 0, 0) (a1.toNatClampNeg))]) C dX9_isSo_35 (s_X5_value G l e19) rfl rfl rfl t_4_219 t_3_88 t_3_89 t_1_3 t_3_90 m_X5_value ⟨Nat.le_of_ble_eq_true rfl, Nat.le_of_ble_eq_true rfl⟩ ⟨rfl, rfl⟩ ⟨Nat.zero_le _, Nat.zero_le _⟩ rfl (Nat.le_of_ble_eq_true rfl) ?_
        refine r_drop (ls2 := [(0, vR (20, 0, 0)), (1, vI a1), (2, vR (3, q2, 0))]) [0, 1, 2] rfl ?_
        exact hk4 _ _ hF
      · have hF := if_f h20 hF
        refine r_iload_n C 3 3 dX9_isSo_29 rfl rfl ?_
        refine r_goto C 38 dX9_isSo_30 (by decide) ?_
        refine r_drop (ls2 := [(0, vR (20, 0, 0)), (1, vI a1), (2, vR (3, q2, 0))]) [0, 1, 2] rfl ?_
        exact hk4 _ _ hF
    · have hF := if_f h21 hF
      refine r_iconst (v := (0 : Int32)) C dX9_isSo_12 rfl ?_
      exact r_zreturn C dX9_isSo_13 (nar_z (Or.inl rfl)) (rt_e hF)
def L_X9_allSo_2 (q1 : Nat) (c2 : Int32) : Nat → Int32 → St → Option (Int32 × St)
  | 0, _, _ => none
  | n + 1, v3, τ =>
  (if (τ.1 (20, 0, 0) 4) ≤ v3 then some ((1 : Int32), τ) else bd (F_X9_isSo v3 q1 c2 τ) fun r2 σ1 => (if r2 = 0 then some ((0 : Int32), σ1) else nam (v3 + (1 : Int32)) fun x4 => L_X9_allSo_2 q1 c2 n x4 σ1))
def F_X9_allSo (q1 : Nat) (a2 : Int32) (σ : St) : Option (Int32 × St) :=
  L_X9_allSo_2 q1 a2 FU (0 : Int32) σ 
set_option maxRecDepth 20000 in
set_option maxHeartbeats 4000000 in
theorem l_X9_allSo_2 {G : Gx} {p : Program} {l : Launch} {e : Env} {s : State} {m : MethodId} {args : Array Value} {below : List Frame} {meth : Method} {c : Code} (C : Cx G p s m args meth c (some .boolean) 4 RX9 cX9_allSo) (q1 : Nat) (c2 : Int32) {σ' : St} {r : Int32} : ∀ (n : Nat) (v3 : Int32) (τ : St), L_X9_allSo_2 q1 c2 n v3 τ = some (r, σ') → Rt G p l e (lvl 5) s m args below meth c 0 0 (MQ below (va_Qi (fun a b => a = r ∧ b = σ') (Wd G) (AG G)) args s 0 0 (AG G)) 4 2 [(0, vR (20, 0, 0)), (1, vR (3, q1, 0)), (2, vI c2), (3, vI v3)] [] τ := by
  intro n
  induction n with
  | zero => intro v3 τ hF; cases hF
  | succ n ih =>
    intro v3 τ hF
    unfold L_X9_allSo_2 at hF
    refine r_iload_n C 3 3 dX9_allSo_2 rfl rfl ?_
    refine r_aload_n C 0 0 dX9_allSo_3 rfl rfl ?_
    refine r_getI (kf := 4) C dX9_allSo_4 rfl rfl f_X9 (by decide) t_2_48 rfl ?_
    refine r_icmp_ge C 28 dX9_allSo_7 (by decide)  (fun h6 => ?_) (fun h6 => ?_)
    · have hF := if_t h6 hF
      refine r_iconst (v := (1 : Int32)) C dX9_allSo_28 rfl ?_
      exact r_zreturn C dX9_allSo_29 (nar_z (Or.inr rfl)) (rt_e hF)
    · have hF := if_f h6 hF
      refine r_aload_n C 0 0 dX9_allSo_10 rfl rfl ?_
      refine r_iload_n C 3 3 dX9_allSo_11 rfl rfl ?_
      refine r_aload_n C 1 1 dX9_allSo_12 rfl rfl ?_
      refine r_iload_n C 2 2 dX9_allSo_13 rfl rfl ?_
      obtain ⟨r2, σ1, e3, hF⟩ := bd_e hF
      refine r_callV_i (as := [vI v3, vR (3, q1, 0), vI c2]) (st := []) C dX9_allSo_14 (s_X9_isSo G l e3) rfl rfl rfl t_4_215 t_4_216 t_4_217 t_1_11 t_4_218 m_X9_isSo ⟨Nat.le_of_ble_eq_true rfl, Nat.le_of_ble_eq_true rfl⟩ ⟨rfl, rfl⟩ ⟨Nat.zero_le _, Nat.zero_le _⟩ rfl (Nat.le_of_ble_eq_true rfl) ?_
      refine r_if_ne C 22 dX9_allSo_17 (by decide)  (fun h5 => ?_) (fun h5 => ?_)
      · have hF := if_f h5 hF
        obtain ⟨x4, ex4, hF⟩ := nam_e hF
        refine r_iinc (v := x4) (ls2 := [(3, vI x4), (0, vR (20, 0, 0)), (1, vR (3, q1, 0)), (2, vI c2)]) C 3 dX9_allSo_22 rfl ex4.symm (by decide) rfl ?_
        refine r_goto C 2 dX9_allSo_25 (by decide) ?_
        refine r_drop (ls2 := [(0, vR (20, 0, 0)), (1, vR (3, q1, 0)), (2, vI c2), (3, vI x4)]) [1, 2, 3, 0] rfl ?_
        exact ih _ _ hF
      · have hF := if_t h5 hF
        refine r_iconst (v := (0 : Int32)) C dX9_allSo_20 rfl ?_
        exact r_zreturn C dX9_allSo_21 (nar_z (Or.inl rfl)) (rt_e hF)
set_option maxRecDepth 20000 in
set_option maxHeartbeats 4000000 in
theorem s_X9_allSo (G : Gx) (l : Launch) {q1 : Nat} {a2 : Int32} {σ σ' : St} {r : Int32} (hF : F_X9_allSo q1 a2 σ = some (r, σ')) : Sp G l yX9_allSo cX9_allSo 4 (some .boolean) (lvl 5) [vR (20, 0, 0), vR (3, q1, 0), vI a2] σ (va_Qi (fun a b => a = r ∧ b = σ') (Wd G) (AG G)) := by
  refine Sp_of (own := RX9) (by decide) rfl (Nat.le_of_ble_eq_true rfl) ?_
  intro p e s m args below meth c C
  show Rt G p l e (lvl 5) s m args below meth c 0 0 (MQ below (va_Qi (fun a b => a = r ∧ b = σ') (Wd G) (AG G)) args s 0 0 (AG G)) 4 0 [(0, vR (20, 0, 0)), (1, vR (3, q1, 0)), (2, vI a2)] [] σ
  unfold F_X9_allSo at hF
  refine r_iconst (v := (0 : Int32)) C dX9_allSo_0 rfl ?_
  refine r_istore_n (ls2 := [(3, vI (0 : Int32)), (0, vR (20, 0, 0)), (1, vR (3, q1, 0)), (2, vI a2)]) C dX9_allSo_1 3 rfl (by decide) rfl ?_
  refine r_drop (ls2 := [(0, vR (20, 0, 0)), (1, vR (3, q1, 0)), (2, vI a2), (3, vI (0 : Int32))]) [1, 2, 3, 0] rfl ?_
  refine l_X9_allSo_2 C q1 a2  _ _ _ hF
def L_X10_fits_38 (c1 : Int32) : Nat → Int32 → Int32 → Int32 → Int32 → St → (Int32 → Int32 → Int32 → St → Option (Int32 × St)) → Option (Int32 × St)
  | 0, _, _, _, _, _, _ => none
  | n + 1, v2, v3, v4, v5, τ, kx90 =>
  ck (inb (0 : Int32) 9) ((if (roC 101 0) < v5 then kx90 v2 v3 v4 τ else bd (F_X9_allSo 0 v5 τ) fun r11 σ10 => nam (fun (y13 : Int32) (y14 : Int32) (y15 : Int32) (σ17 : St) => nam (v5 + (1 : Int32)) fun x18 => L_X10_fits_38 c1 n y13 y14 y15 x18 σ17 kx90) fun k16 => (if r11 = 0 then k16 v2 v3 v4 σ10 else nam (v2 + (1 : Int32)) fun x19 => nam (fun (y20 : Int32) (σ22 : St) => k16 x19 y20 v5 σ22) fun k21 => (if v3 = (-4 : Int32) then k21 v5 σ10 else k21 v3 σ10))))
def F_X10_fits (a1 : Int32) (σ : St) : Option (Int32 × St) :=
  bd (F_X10_within a1 (0 : Int32) (2 : Int32) σ) fun r2 σ1 => (if r2 = 0 then some ((-1 : Int32), σ1) else ck (inb (0 : Int32) 9) (bd (F_X5_value 0 (1 : Int32) σ1) fun r6 σ5 => nam (if (roC 100 0) < r6 then r6 else (roC 100 0)) fun x8 => L_X10_fits_38 a1 FU (0 : Int32) (-4 : Int32) (-4 : Int32) x8 σ5 (fun (y27 : Int32) (y28 : Int32) (y29 : Int32) (σ26 : St) => (if a1 = 0 then some (y27, σ26) else (if a1 = (1 : Int32) then some (y28, σ26) else some (y29, σ26))))))
set_option maxRecDepth 20000 in
set_option maxHeartbeats 4000000 in
theorem l_X10_fits_38 {G : Gx} {p : Program} {l : Launch} {e : Env} {s : State} {m : MethodId} {args : Array Value} {below : List Frame} {meth : Method} {c : Code} (C : Cx G p s m args meth c (some .int) 6 RX10 cX10_fits) (c1 : Int32) {σ' : St} {r : Int32} (kx90 : Int32 → Int32 → Int32 → St → Option (Int32 × St)) (hkx90 : ∀ (w2 : Int32) (w3 : Int32) (w4 : Int32) (τ : St), kx90 w2 w3 w4 τ = some (r, σ') → Rt G p l e (lvl 6) s m args below meth c 0 0 (MQ below (va_Qi (fun a b => a = r ∧ b = σ') (Wd G) (AG G)) args s 0 0 (AG G)) 6 90 [(1, vI c1), (2, vI w2), (3, vI w3), (4, vI w4)] [] τ) : ∀ (n : Nat) (v2 : Int32) (v3 : Int32) (v4 : Int32) (v5 : Int32) (τ : St), L_X10_fits_38 c1 n v2 v3 v4 v5 τ kx90 = some (r, σ') → Rt G p l e (lvl 6) s m args below meth c 0 0 (MQ below (va_Qi (fun a b => a = r ∧ b = σ') (Wd G) (AG G)) args s 0 0 (AG G)) 6 38 [(0, vR (0, 0, 0)), (1, vI c1), (2, vI v2), (3, vI v3), (4, vI v4), (5, vI v5)] [] τ := by
  intro n
  induction n with
  | zero => intro v2 v3 v4 v5 τ hF; cases hF
  | succ n ih =>
    intro v2 v3 v4 v5 τ hF
    unfold L_X10_fits_38 at hF
    refine r_iload C 5 dX10_fits_38 rfl ?_
    refine r_gets (t := 101) (nm := "RULE_MOST") C dX10_fits_40 (by decide) t_4_210 (by decide) ?_
    refine r_iconst (v := (0 : Int32)) C dX10_fits_43 rfl ?_
    obtain ⟨h9, hF⟩ := ck_e hF
    refine r_roload (v := roC 101 0) C 0 dX10_fits_44 (by decide) h9 rfl rfl ?_
    refine r_icmp_gt C 90 dX10_fits_45 (by decide)  (fun h25 => ?_) (fun h25 => ?_)
    · have hF := if_t h25 hF
      refine r_drop (ls2 := [(1, vI c1), (2, vI v2), (3, vI v3), (4, vI v4)]) [1, 2, 3, 4] rfl ?_
      exact hkx90 _ _ _ _ hF
    · have hF := if_f h25 hF
      refine r_aload_n C 0 0 dX10_fits_48 rfl rfl ?_
      refine r_getR (kf := 9) (d2 := (20, 0, 0)) C dX10_fits_49 rfl rfl f_X10 (by decide) t_2_105 rfl rfl ?_
      refine r_aload_n C 0 0 dX10_fits_52 rfl rfl ?_
      refine r_getR (kf := 3) (d2 := (3, 0, 0)) C dX10_fits_53 rfl rfl f_X10 (by decide) t_2_99 rfl rfl ?_
      refine r_iload C 5 dX10_fits_56 rfl ?_
      obtain ⟨r11, σ10, e12, hF⟩ := bd_e hF
      refine r_callV_i (as := [vR (3, 0, 0), vI v5]) (st := []) C dX10_fits_58 (s_X9_allSo G l e12) rfl rfl rfl t_4_211 t_4_212 t_4_213 t_1_11 t_4_214 m_X9_allSo ⟨Nat.le_of_ble_eq_true rfl, Nat.le_of_ble_eq_true rfl⟩ ⟨rfl, rfl⟩ ⟨Nat.zero_le _, Nat.zero_le _⟩ rfl (Nat.le_of_ble_eq_true rfl) ?_
      obtain ⟨k16, ek16, hF⟩ := nam_e hF
      have hk16 : ∀ (y13 : Int32) (y14 : Int32) (y15 : Int32) (σ17 : St), k16 y13 y14 y15 σ17 = some (r, σ') → Rt G p l e (lvl 6) s m args below meth c 0 0 (MQ below (va_Qi (fun a b => a = r ∧ b = σ') (Wd G) (AG G)) args s 0 0 (AG G)) 6 84 [(0, vR (0, 0, 0)), (1, vI c1), (2, vI y13), (3, vI y14), (4, vI y15), (5, vI v5)] [] σ17 := by
        intro y13 y14 y15 σ17 hF
        subst ek16
        obtain ⟨x18, ex18, hF⟩ := nam_e hF
        refine r_iinc (v := x18) (ls2 := [(5, vI x18), (0, vR (0, 0, 0)), (1, vI c1), (2, vI y13), (3, vI y14), (4, vI y15)]) C 5 dX10_fits_84 rfl ex18.symm (by decide) rfl ?_
        refine r_goto C 38 dX10_fits_87 (by decide) ?_
        refine r_drop (ls2 := [(0, vR (0, 0, 0)), (1, vI c1), (2, vI y13), (3, vI y14), (4, vI y15), (5, vI x18)]) [1, 2, 3, 4, 5, 0] rfl ?_
        exact ih _ _ _ _ _ hF
      refine r_if_eq C 84 dX10_fits_61 (by decide)  (fun h24 => ?_) (fun h24 => ?_)
      · have hF := if_t h24 hF
        exact hk16 _ _ _ _ hF
      · have hF := if_f h24 hF
        obtain ⟨x19, ex19, hF⟩ := nam_e hF
        refine r_iinc (v := x19) (ls2 := [(2, vI x19), (0, vR (0, 0, 0)), (1, vI c1), (3, vI v3), (4, vI v4), (5, vI v5)]) C 2 dX10_fits_64 rfl ex19.symm (by decide) rfl ?_
        refine r_iload_n C 3 3 dX10_fits_67 rfl rfl ?_
        refine r_bipush (v := (-4 : Int32)) C dX10_fits_68 rfl ?_
        obtain ⟨k21, ek21, hF⟩ := nam_e hF
        have hk21 : ∀ (y20 : Int32) (σ22 : St), k21 y20 σ22 = some (r, σ') → Rt G p l e (lvl 6) s m args below meth c 0 0 (MQ below (va_Qi (fun a b => a = r ∧ b = σ') (Wd G) (AG G)) args s 0 0 (AG G)) 6 79 [(0, vR (0, 0, 0)), (1, vI c1), (2, vI x19), (5, vI v5)] [vI y20] σ22 := by
          intro y20 σ22 hF
          subst ek21
          refine r_istore_n (ls2 := [(3, vI y20), (0, vR (0, 0, 0)), (1, vI c1), (2, vI x19), (5, vI v5)]) C dX10_fits_79 3 rfl (by decide) rfl ?_
          refine r_iload C 4 dX10_fits_80 rfl ?_
          refine r_istore (ls2 := [(4, vI v5), (3, vI y20), (0, vR (0, 0, 0)), (1, vI c1), (2, vI x19), (5, vI v5)]) C dX10_fits_82 (by decide) rfl ?_
          refine r_drop (ls2 := [(0, vR (0, 0, 0)), (1, vI c1), (2, vI x19), (3, vI y20), (4, vI v5), (5, vI v5)]) [2, 3, 4, 1, 0, 5] rfl ?_
          exact hk16 _ _ _ _ hF
        refine r_icmp_ne C 78 dX10_fits_70 (by decide)  (fun h23 => ?_) (fun h23 => ?_)
        · have hF := if_f h23 hF
          refine r_iload_n C 3 3 dX10_fits_78 rfl rfl ?_
          refine r_drop (ls2 := [(0, vR (0, 0, 0)), (1, vI c1), (2, vI x19), (5, vI v5)]) [1, 2, 0, 5] rfl ?_
          exact hk21 _ _ hF
        · have hF := if_t h23 hF
          refine r_iload C 5 dX10_fits_73 rfl ?_
          refine r_goto C 79 dX10_fits_75 (by decide) ?_
          refine r_drop (ls2 := [(0, vR (0, 0, 0)), (1, vI c1), (2, vI x19), (5, vI v5)]) [1, 2, 0, 5] rfl ?_
          exact hk21 _ _ hF
set_option maxRecDepth 20000 in
set_option maxHeartbeats 4000000 in
theorem s_X10_fits (G : Gx) (l : Launch) {a1 : Int32} {σ σ' : St} {r : Int32} (hF : F_X10_fits a1 σ = some (r, σ')) : Sp G l yX10_fits cX10_fits 6 (some .int) (lvl 6) [vR (0, 0, 0), vI a1] σ (va_Qi (fun a b => a = r ∧ b = σ') (Wd G) (AG G)) := by
  refine Sp_of (own := RX10) (by decide) rfl (Nat.le_of_ble_eq_true rfl) ?_
  intro p e s m args below meth c C
  show Rt G p l e (lvl 6) s m args below meth c 0 0 (MQ below (va_Qi (fun a b => a = r ∧ b = σ') (Wd G) (AG G)) args s 0 0 (AG G)) 6 0 [(0, vR (0, 0, 0)), (1, vI a1)] [] σ
  unfold F_X10_fits at hF
  refine r_iload_n C 1 1 dX10_fits_0 rfl rfl ?_
  refine r_iconst (v := (0 : Int32)) C dX10_fits_1 rfl ?_
  refine r_iconst (v := (2 : Int32)) C dX10_fits_2 rfl ?_
  obtain ⟨r2, σ1, e3, hF⟩ := bd_e hF
  refine r_callS_i (as := [vI a1, vI (0 : Int32), vI (2 : Int32)]) (st := []) C dX10_fits_3 (s_X10_within G l e3) t_2_141 t_2_142 t_1_1 t_2_143 m_X10_within ⟨Nat.le_of_ble_eq_true rfl, Nat.le_of_ble_eq_true rfl⟩ ⟨rfl, rfl⟩ ⟨Nat.zero_le _, Nat.zero_le _⟩ rfl (Nat.le_of_ble_eq_true rfl) ?_
  refine r_if_ne C 11 dX10_fits_6 (by decide)  (fun h32 => ?_) (fun h32 => ?_)
  · have hF := if_f h32 hF
    refine r_iconst (v := (0 : Int32)) C dX10_fits_11 rfl ?_
    refine r_istore_n (ls2 := [(2, vI (0 : Int32)), (0, vR (0, 0, 0)), (1, vI a1)]) C dX10_fits_12 2 rfl (by decide) rfl ?_
    refine r_bipush (v := (-4 : Int32)) C dX10_fits_13 rfl ?_
    refine r_istore_n (ls2 := [(3, vI (-4 : Int32)), (2, vI (0 : Int32)), (0, vR (0, 0, 0)), (1, vI a1)]) C dX10_fits_15 3 rfl (by decide) rfl ?_
    refine r_bipush (v := (-4 : Int32)) C dX10_fits_16 rfl ?_
    refine r_istore (ls2 := [(4, vI (-4 : Int32)), (3, vI (-4 : Int32)), (2, vI (0 : Int32)), (0, vR (0, 0, 0)), (1, vI a1)]) C dX10_fits_18 (by decide) rfl ?_
    refine r_gets (t := 100) (nm := "RULE_LEAST") C dX10_fits_20 (by decide) t_4_209 (by decide) ?_
    refine r_iconst (v := (0 : Int32)) C dX10_fits_23 rfl ?_
    obtain ⟨h4, hF⟩ := ck_e hF
    refine r_roload (v := roC 100 0) C 0 dX10_fits_24 (by decide) h4 rfl rfl ?_
    refine r_aload_n C 3 0 dX10_fits_25 rfl rfl ?_
    refine r_getR (kf := 3) (d2 := (3, 0, 0)) C dX10_fits_26 rfl rfl f_X10 (by decide) t_2_99 rfl rfl ?_
    refine r_iconst (v := (1 : Int32)) C dX10_fits_29 rfl ?_
    obtain ⟨r6, σ5, e7, hF⟩ := bd_e hF
    refine r_callV_i (as := [vI (1 : Int32)]) (st := [vI (roC 100 0)]) C dX10_fits_30 (s_X5_value G l e7) rfl rfl rfl t_3_113 t_3_88 t_3_89 t_1_3 t_3_90 m_X5_value ⟨Nat.le_of_ble_eq_true rfl, Nat.le_of_ble_eq_true rfl⟩ ⟨rfl, rfl⟩ ⟨Nat.zero_le _, Nat.zero_le _⟩ rfl (Nat.le_of_ble_eq_true rfl) ?_
    refine r_max C dX10_fits_33 t_4_192 t_3_14 t_1_15 t_3_15 ⟨Nat.le_of_ble_eq_true rfl, Nat.le_of_ble_eq_true rfl⟩ ⟨Nat.zero_le _, Nat.zero_le _⟩ ?_
    obtain ⟨x8, ex8, hF⟩ := nam_e hF
    refine r_topI ex8 ?_
    refine r_istore (ls2 := [(5, vI x8), (4, vI (-4 : Int32)), (3, vI (-4 : Int32)), (2, vI (0 : Int32)), (0, vR (0, 0, 0)), (1, vI a1)]) C dX10_fits_36 (by decide) rfl ?_
    refine r_drop (ls2 := [(0, vR (0, 0, 0)), (1, vI a1), (2, vI (0 : Int32)), (3, vI (-4 : Int32)), (4, vI (-4 : Int32)), (5, vI x8)]) [4, 5, 3, 2, 1, 0] rfl ?_
    refine l_X10_fits_38 C a1 _ ?_ _ _ _ _ _ _ hF
    · intro y27 y28 y29 σ26 hF
      refine r_iload_n C 0 1 dX10_fits_90 rfl rfl ?_
      refine r_if_ne C 98 dX10_fits_91 (by decide)  (fun h31 => ?_) (fun h31 => ?_)
      · have hF := if_f h31 hF
        refine r_iload_n C 0 1 dX10_fits_98 rfl rfl ?_
        refine r_iconst (v := (1 : Int32)) C dX10_fits_99 rfl ?_
        refine r_icmp_ne C 107 dX10_fits_100 (by decide)  (fun h30 => ?_) (fun h30 => ?_)
        · have hF := if_f h30 hF
          refine r_iload C 3 dX10_fits_107 rfl ?_
          exact r_ireturn C dX10_fits_109 (rt_e hF)
        · have hF := if_t h30 hF
          refine r_iload_n C 2 3 dX10_fits_103 rfl rfl ?_
          refine r_goto C 109 dX10_fits_104 (by decide) ?_
          exact r_ireturn C dX10_fits_109 (rt_e hF)
      · have hF := if_t h31 hF
        refine r_iload_n C 1 2 dX10_fits_94 rfl rfl ?_
        refine r_goto C 109 dX10_fits_95 (by decide) ?_
        exact r_ireturn C dX10_fits_109 (rt_e hF)
  · have hF := if_t h32 hF
    refine r_iconst (v := (-1 : Int32)) C dX10_fits_9 rfl ?_
    exact r_ireturn C dX10_fits_10 (rt_e hF)
