def F_X6_isOpen (q0 : Nat) (a1 : Int32) (σ : St) : Option (Int32 × St) :=
  bd (F_X6_kindAt q0 a1 σ) fun r2 σ1 => (if r2 = (5 : Int32) then some ((0 : Int32), σ1) else (if r2 = (6 : Int32) then some ((0 : Int32), σ1) else some ((1 : Int32), σ1)))
set_option maxRecDepth 20000 in
set_option maxHeartbeats 4000000 in
theorem s_X6_isOpen (G : Gx) (l : Launch) {q0 : Nat} {a1 : Int32} {σ σ' : St} {r : Int32} (hF : F_X6_isOpen q0 a1 σ = some (r, σ')) : Sp G l yX6_isOpen cX6_isOpen 3 (some .boolean) (lvl 1) [vR (7, q0, 0), vI a1] σ (va_Qi (fun a b => a = r ∧ b = σ') (Wd G) (AG G)) := by
  refine Sp_of (own := RX6) (by decide) rfl (Nat.le_of_ble_eq_true rfl) ?_
  intro p e s m args below meth c C
  show Rt G p l e (lvl 1) s m args below meth c 0 0 (MQ below (va_Qi (fun a b => a = r ∧ b = σ') (Wd G) (AG G)) args s 0 0 (AG G)) 3 0 [(0, vR (7, q0, 0)), (1, vI a1)] [] σ
  unfold F_X6_isOpen at hF
  refine r_aload_n C 0 0 dX6_isOpen_0 rfl rfl ?_
  refine r_iload_n C 1 1 dX6_isOpen_1 rfl rfl ?_
  obtain ⟨r2, σ1, e3, hF⟩ := bd_e hF
  refine r_callV_i (as := [vI a1]) (st := []) C dX6_isOpen_2 (s_X6_kindAt G l e3) rfl rfl rfl t_3_165 t_3_122 t_3_123 t_1_5 t_3_124 m_X6_kindAt ⟨Nat.le_of_ble_eq_true rfl, Nat.le_of_ble_eq_true rfl⟩ ⟨rfl, rfl⟩ ⟨Nat.zero_le _, Nat.zero_le _⟩ rfl (Nat.le_of_ble_eq_true rfl) ?_
  refine r_istore_n (ls2 := [(2, vI r2), (0, vR (7, q0, 0)), (1, vI a1)]) C dX6_isOpen_5 2 rfl (by decide) rfl ?_
  refine r_iload_n C 0 2 dX6_isOpen_6 rfl rfl ?_
  refine r_iconst (v := (5 : Int32)) C dX6_isOpen_7 rfl ?_
  refine r_icmp_eq C 21 dX6_isOpen_8 (by decide)  (fun h5 => ?_) (fun h5 => ?_)
  · have hF := if_t h5 hF
    refine r_iconst (v := (0 : Int32)) C dX6_isOpen_21 rfl ?_
    exact r_zreturn C dX6_isOpen_22 (nar_z (Or.inl rfl)) (rt_e hF)
  · have hF := if_f h5 hF
    refine r_iload_n C 0 2 dX6_isOpen_11 rfl rfl ?_
    refine r_bipush (v := (6 : Int32)) C dX6_isOpen_12 rfl ?_
    refine r_icmp_eq C 21 dX6_isOpen_14 (by decide)  (fun h4 => ?_) (fun h4 => ?_)
    · have hF := if_t h4 hF
      refine r_iconst (v := (0 : Int32)) C dX6_isOpen_21 rfl ?_
      exact r_zreturn C dX6_isOpen_22 (nar_z (Or.inl rfl)) (rt_e hF)
    · have hF := if_f h4 hF
      refine r_iconst (v := (1 : Int32)) C dX6_isOpen_17 rfl ?_
      refine r_goto C 22 dX6_isOpen_18 (by decide) ?_
      exact r_zreturn C dX6_isOpen_22 (nar_z (Or.inr rfl)) (rt_e hF)
def F_X0_begin (q0 : Nat) (i0 : Nat) (a1 : Int32) (a2 : Int32) (a3 : Int32) (σ : St) : Option (Unit × St) :=
  nam (uI σ (10, q0, i0) 0 a1) fun σ1 => nam (uI σ1 (10, q0, i0) 1 a2) fun σ2 => nam (uI σ2 (10, q0, i0) 2 a3) fun σ3 => nam (uI σ3 (10, q0, i0) 3 (0 : Int32)) fun σ4 => nam (uI σ4 (10, q0, i0) 4 (-4 : Int32)) fun σ5 => nam (uI σ5 (10, q0, i0) 5 (-4 : Int32)) fun σ6 => some ((), σ6)
set_option maxRecDepth 20000 in
set_option maxHeartbeats 4000000 in
theorem s_X0_begin (G : Gx) (l : Launch) {q0 : Nat} {i0 : Nat} {a1 : Int32} {a2 : Int32} {a3 : Int32} {σ σ' : St}  (hF : F_X0_begin q0 i0 a1 a2 a3 σ = some ((), σ')) : Sp G l yX0_begin cX0_begin 4 none (lvl 0) [vR (10, q0, i0), vI a1, vI a2, vI a3] σ (va_Qv (fun b => b = σ') (Wd G) (AG G)) := by
  refine Sp_of (own := RX0) (by decide) rfl (Nat.le_of_ble_eq_true rfl) ?_
  intro p e s m args below meth c C
  show Rt G p l e (lvl 0) s m args below meth c 0 0 (MQ below (va_Qv (fun b => b = σ') (Wd G) (AG G)) args s 0 0 (AG G)) 4 0 [(0, vR (10, q0, i0)), (1, vI a1), (2, vI a2), (3, vI a3)] [] σ
  unfold F_X0_begin at hF
  refine r_aload_n C 0 0 dX0_begin_0 rfl rfl ?_
  refine r_iload_n C 1 1 dX0_begin_1 rfl rfl ?_
  obtain ⟨σ1, eσ1, hF⟩ := nam_e hF
  refine r_put (kf := 0) (ty0 := tyX0) C dX0_begin_2 rfl rfl f_X0 tyX0_ok nmX0 (by decide) t_1_118 rfl rfl rfl rfl eσ1 ?_
  refine r_aload_n C 0 0 dX0_begin_5 rfl rfl ?_
  refine r_iload_n C 2 2 dX0_begin_6 rfl rfl ?_
  obtain ⟨σ2, eσ2, hF⟩ := nam_e hF
  refine r_put (kf := 1) (ty0 := tyX0) C dX0_begin_7 rfl rfl f_X0 tyX0_ok nmX0 (by decide) t_1_123 rfl rfl rfl rfl eσ2 ?_
  refine r_aload_n C 0 0 dX0_begin_10 rfl rfl ?_
  refine r_iload_n C 3 3 dX0_begin_11 rfl rfl ?_
  obtain ⟨σ3, eσ3, hF⟩ := nam_e hF
  refine r_put (kf := 2) (ty0 := tyX0) C dX0_begin_12 rfl rfl f_X0 tyX0_ok nmX0 (by decide) t_1_126 rfl rfl rfl rfl eσ3 ?_
  refine r_aload_n C 0 0 dX0_begin_15 rfl rfl ?_
  refine r_iconst (v := (0 : Int32)) C dX0_begin_16 rfl ?_
  obtain ⟨σ4, eσ4, hF⟩ := nam_e hF
  refine r_put (kf := 3) (ty0 := tyX0) C dX0_begin_17 rfl rfl f_X0 tyX0_ok nmX0 (by decide) t_1_130 rfl rfl rfl rfl eσ4 ?_
  refine r_aload_n C 0 0 dX0_begin_20 rfl rfl ?_
  refine r_bipush (v := (-4 : Int32)) C dX0_begin_21 rfl ?_
  obtain ⟨σ5, eσ5, hF⟩ := nam_e hF
  refine r_put (kf := 4) (ty0 := tyX0) C dX0_begin_23 rfl rfl f_X0 tyX0_ok nmX0 (by decide) t_1_134 rfl rfl rfl rfl eσ5 ?_
  refine r_aload_n C 0 0 dX0_begin_26 rfl rfl ?_
  refine r_bipush (v := (-4 : Int32)) C dX0_begin_27 rfl ?_
  obtain ⟨σ6, eσ6, hF⟩ := nam_e hF
  refine r_put (kf := 5) (ty0 := tyX0) C dX0_begin_29 rfl rfl f_X0 tyX0_ok nmX0 (by decide) t_1_137 rfl rfl rfl rfl eσ6 ?_
  exact r_return C dX0_begin_32 (rv_e hF)
def F_X6_addDrop (q0 : Nat) (a1 : Int32) (a2 : Int32) (a3 : Int32) (σ : St) : Option (Int32 × St) :=
  (if (σ.1 (7, q0, 0) 2) < (12 : Int32) then ck (inb (σ.1 (7, q0, 0) 2) 12) (bd (F_X0_begin q0 ((σ.1 (7, q0, 0) 2).toNatClampNeg) a1 a2 a3 σ) fun _ σ2 => nam (uI σ2 (7, q0, 0) 10 ((σ2.1 (7, q0, 0) 10) + a2)) fun σ4 => nam (uI σ4 (7, q0, 0) 2 ((σ4.1 (7, q0, 0) 2) + (1 : Int32))) fun σ5 => some ((σ5.1 (7, q0, 0) 2) - (1 : Int32), σ5)) else some ((-3 : Int32), σ))
set_option maxRecDepth 20000 in
set_option maxHeartbeats 4000000 in
theorem s_X6_addDrop (G : Gx) (l : Launch) {q0 : Nat} {a1 : Int32} {a2 : Int32} {a3 : Int32} {σ σ' : St} {r : Int32} (hF : F_X6_addDrop q0 a1 a2 a3 σ = some (r, σ')) : Sp G l yX6_addDrop cX6_addDrop 4 (some .int) (lvl 1) [vR (7, q0, 0), vI a1, vI a2, vI a3] σ (va_Qi (fun a b => a = r ∧ b = σ') (Wd G) (AG G)) := by
  refine Sp_of (own := RX6) (by decide) rfl (Nat.le_of_ble_eq_true rfl) ?_
  intro p e s m args below meth c C
  show Rt G p l e (lvl 1) s m args below meth c 0 0 (MQ below (va_Qi (fun a b => a = r ∧ b = σ') (Wd G) (AG G)) args s 0 0 (AG G)) 4 0 [(0, vR (7, q0, 0)), (1, vI a1), (2, vI a2), (3, vI a3)] [] σ
  unfold F_X6_addDrop at hF
  refine r_aload_n C 0 0 dX6_addDrop_0 rfl rfl ?_
  refine r_getI (kf := 2) C dX6_addDrop_1 rfl rfl f_X6 (by decide) t_1_159 rfl ?_
  refine r_bipush (v := (12 : Int32)) C dX6_addDrop_4 rfl ?_
  refine r_icmp_lt C 12 dX6_addDrop_6 (by decide)  (fun h6 => ?_) (fun h6 => ?_)
  · have hF := if_t h6 hF
    refine r_aload_n C 0 0 dX6_addDrop_12 rfl rfl ?_
    refine r_getR (kf := 1) (d2 := (9, q0, 0)) C dX6_addDrop_13 rfl rfl f_X6 (by decide) t_1_156 rfl rfl ?_
    refine r_aload_n C 0 0 dX6_addDrop_16 rfl rfl ?_
    refine r_getI (kf := 2) C dX6_addDrop_17 rfl rfl f_X6 (by decide) t_1_159 rfl ?_
    obtain ⟨h1, hF⟩ := ck_e hF
    refine r_aaload (cA := 0) (d2 := (10, q0, ((σ.1 (7, q0, 0) 2).toNatClampNeg))) C dX6_addDrop_20 rfl rfl h1 rfl ?_
    refine r_iload_n C 1 1 dX6_addDrop_21 rfl rfl ?_
    refine r_iload_n C 2 2 dX6_addDrop_22 rfl rfl ?_
    refine r_iload_n C 3 3 dX6_addDrop_23 rfl rfl ?_
    obtain ⟨⟨⟩, σ2, e3, hF⟩ := bd_e hF
    refine r_callV_v (as := [vI a1, vI a2, vI a3]) (st := []) C dX6_addDrop_24 (s_X0_begin G l e3) rfl rfl rfl t_3_170 t_3_171 t_3_172 t_1_7 t_3_173 m_X0_begin ⟨Nat.le_of_ble_eq_true rfl, Nat.le_of_ble_eq_true rfl⟩ ⟨rfl, rfl⟩ ⟨Nat.zero_le _, Nat.zero_le _⟩ rfl (Nat.le_of_ble_eq_true rfl) ?_
    refine r_aload_n C 0 0 dX6_addDrop_27 rfl rfl ?_
    refine r_dup_r C dX6_addDrop_28 ?_
    refine r_getI (kf := 10) C dX6_addDrop_29 rfl rfl f_X6 (by decide) t_1_175 rfl ?_
    refine r_iload_n C 2 2 dX6_addDrop_32 rfl rfl ?_
    refine r_iadd C dX6_addDrop_33 ?_
    obtain ⟨σ4, eσ4, hF⟩ := nam_e hF
    refine r_put (kf := 10) (ty0 := tyX6) C dX6_addDrop_34 rfl rfl f_X6 tyX6_ok nmX6 (by decide) t_1_175 rfl rfl rfl rfl eσ4 ?_
    refine r_aload_n C 0 0 dX6_addDrop_37 rfl rfl ?_
    refine r_dup_r C dX6_addDrop_38 ?_
    refine r_getI (kf := 2) C dX6_addDrop_39 rfl rfl f_X6 (by decide) t_1_159 rfl ?_
    refine r_iconst (v := (1 : Int32)) C dX6_addDrop_42 rfl ?_
    refine r_iadd C dX6_addDrop_43 ?_
    obtain ⟨σ5, eσ5, hF⟩ := nam_e hF
    refine r_put (kf := 2) (ty0 := tyX6) C dX6_addDrop_44 rfl rfl f_X6 tyX6_ok nmX6 (by decide) t_1_159 rfl rfl rfl rfl eσ5 ?_
    refine r_aload_n C 0 0 dX6_addDrop_47 rfl rfl ?_
    refine r_getI (kf := 2) C dX6_addDrop_48 rfl rfl f_X6 (by decide) t_1_159 rfl ?_
    refine r_iconst (v := (1 : Int32)) C dX6_addDrop_51 rfl ?_
    refine r_isub C dX6_addDrop_52 ?_
    exact r_ireturn C dX6_addDrop_53 (rt_e hF)
  · have hF := if_f h6 hF
    refine r_bipush (v := (-3 : Int32)) C dX6_addDrop_9 rfl ?_
    exact r_ireturn C dX6_addDrop_11 (rt_e hF)
def F_X10_setDown (a1 : Int32) (a2 : Int32) (a3 : Int32) (σ : St) : Option (Int32 × St) :=
  bd (F_X10_isDropToBe a1 a2 a3 σ) fun r2 σ1 => (if r2 = 0 then some ((-1 : Int32), σ1) else bd (F_X6_isOpen 0 a1 σ1) fun r5 σ4 => (if r5 = 0 then some ((-2 : Int32), σ4) else bd (F_X6_dropAt 0 a1 σ4) fun r8 σ7 => (if r8 = (-4 : Int32) then (if (12 : Int32) ≤ (σ7.1 (7, 0, 0) 2) then some ((-3 : Int32), σ7) else bd (F_X6_addDrop 0 a1 a2 a3 σ7) fun r11 σ10 => some (r11, σ10)) else some ((-2 : Int32), σ7))))
set_option maxRecDepth 20000 in
set_option maxHeartbeats 4000000 in
theorem s_X10_setDown (G : Gx) (l : Launch) {a1 : Int32} {a2 : Int32} {a3 : Int32} {σ σ' : St} {r : Int32} (hF : F_X10_setDown a1 a2 a3 σ = some (r, σ')) : Sp G l yX10_setDown cX10_setDown 4 (some .int) (lvl 3) [vR (0, 0, 0), vI a1, vI a2, vI a3] σ (va_Qi (fun a b => a = r ∧ b = σ') (Wd G) (AG G)) := by
  refine Sp_of (own := RX10) (by decide) rfl (Nat.le_of_ble_eq_true rfl) ?_
  intro p e s m args below meth c C
  show Rt G p l e (lvl 3) s m args below meth c 0 0 (MQ below (va_Qi (fun a b => a = r ∧ b = σ') (Wd G) (AG G)) args s 0 0 (AG G)) 4 0 [(0, vR (0, 0, 0)), (1, vI a1), (2, vI a2), (3, vI a3)] [] σ
  unfold F_X10_setDown at hF
  refine r_iload_n C 1 1 dX10_setDown_0 rfl rfl ?_
  refine r_iload_n C 2 2 dX10_setDown_1 rfl rfl ?_
  refine r_iload_n C 3 3 dX10_setDown_2 rfl rfl ?_
  obtain ⟨r2, σ1, e3, hF⟩ := bd_e hF
  refine r_callS_i (as := [vI a1, vI a2, vI a3]) (st := []) C dX10_setDown_3 (s_X10_isDropToBe G l e3) t_3_152 t_3_153 t_1_1 t_3_154 m_X10_isDropToBe ⟨Nat.le_of_ble_eq_true rfl, Nat.le_of_ble_eq_true rfl⟩ ⟨rfl, rfl⟩ ⟨Nat.zero_le _, Nat.zero_le _⟩ rfl (Nat.le_of_ble_eq_true rfl) ?_
  refine r_if_ne C 11 dX10_setDown_6 (by decide)  (fun h16 => ?_) (fun h16 => ?_)
  · have hF := if_f h16 hF
    refine r_aload_n C 0 0 dX10_setDown_11 rfl rfl ?_
    refine r_getR (kf := 4) (d2 := (7, 0, 0)) C dX10_setDown_12 rfl rfl f_X10 (by decide) t_2_100 rfl rfl ?_
    refine r_iload_n C 1 1 dX10_setDown_15 rfl rfl ?_
    obtain ⟨r5, σ4, e6, hF⟩ := bd_e hF
    refine r_callV_i (as := [vI a1]) (st := []) C dX10_setDown_16 (s_X6_isOpen G l e6) rfl rfl rfl t_3_161 t_3_162 t_3_163 t_1_5 t_3_164 m_X6_isOpen ⟨Nat.le_of_ble_eq_true rfl, Nat.le_of_ble_eq_true rfl⟩ ⟨rfl, rfl⟩ ⟨Nat.zero_le _, Nat.zero_le _⟩ rfl (Nat.le_of_ble_eq_true rfl) ?_
    refine r_if_eq C 35 dX10_setDown_19 (by decide)  (fun h15 => ?_) (fun h15 => ?_)
    · have hF := if_t h15 hF
      refine r_bipush (v := (-2 : Int32)) C dX10_setDown_35 rfl ?_
      exact r_ireturn C dX10_setDown_37 (rt_e hF)
    · have hF := if_f h15 hF
      refine r_aload_n C 0 0 dX10_setDown_22 rfl rfl ?_
      refine r_getR (kf := 4) (d2 := (7, 0, 0)) C dX10_setDown_23 rfl rfl f_X10 (by decide) t_2_100 rfl rfl ?_
      refine r_iload_n C 1 1 dX10_setDown_26 rfl rfl ?_
      obtain ⟨r8, σ7, e9, hF⟩ := bd_e hF
      refine r_callV_i (as := [vI a1]) (st := []) C dX10_setDown_27 (s_X6_dropAt G l e9) rfl rfl rfl t_3_129 t_3_130 t_3_131 t_1_5 t_3_132 m_X6_dropAt ⟨Nat.le_of_ble_eq_true rfl, Nat.le_of_ble_eq_true rfl⟩ ⟨rfl, rfl⟩ ⟨Nat.zero_le _, Nat.zero_le _⟩ rfl (Nat.le_of_ble_eq_true rfl) ?_
      refine r_bipush (v := (-4 : Int32)) C dX10_setDown_30 rfl ?_
      refine r_icmp_eq C 38 dX10_setDown_32 (by decide)  (fun h14 => ?_) (fun h14 => ?_)
      · have hF := if_t h14 hF
        refine r_aload_n C 0 0 dX10_setDown_38 rfl rfl ?_
        refine r_getR (kf := 4) (d2 := (7, 0, 0)) C dX10_setDown_39 rfl rfl f_X10 (by decide) t_2_100 rfl rfl ?_
        refine r_getI (kf := 2) C dX10_setDown_42 rfl rfl f_X6 (by decide) t_1_160 rfl ?_
        refine r_bipush (v := (12 : Int32)) C dX10_setDown_45 rfl ?_
        refine r_icmp_ge C 63 dX10_setDown_47 (by decide)  (fun h13 => ?_) (fun h13 => ?_)
        · have hF := if_t h13 hF
          refine r_bipush (v := (-3 : Int32)) C dX10_setDown_63 rfl ?_
          exact r_ireturn C dX10_setDown_65 (rt_e hF)
        · have hF := if_f h13 hF
          refine r_aload_n C 0 0 dX10_setDown_50 rfl rfl ?_
          refine r_getR (kf := 4) (d2 := (7, 0, 0)) C dX10_setDown_51 rfl rfl f_X10 (by decide) t_2_100 rfl rfl ?_
          refine r_iload_n C 1 1 dX10_setDown_54 rfl rfl ?_
          refine r_iload_n C 2 2 dX10_setDown_55 rfl rfl ?_
          refine r_iload_n C 3 3 dX10_setDown_56 rfl rfl ?_
          obtain ⟨r11, σ10, e12, hF⟩ := bd_e hF
          refine r_callV_i (as := [vI a1, vI a2, vI a3]) (st := []) C dX10_setDown_57 (s_X6_addDrop G l e12) rfl rfl rfl t_3_166 t_3_167 t_3_168 t_1_5 t_3_169 m_X6_addDrop ⟨Nat.le_of_ble_eq_true rfl, Nat.le_of_ble_eq_true rfl⟩ ⟨rfl, rfl⟩ ⟨Nat.zero_le _, Nat.zero_le _⟩ rfl (Nat.le_of_ble_eq_true rfl) ?_
          refine r_goto C 65 dX10_setDown_60 (by decide) ?_
          exact r_ireturn C dX10_setDown_65 (rt_e hF)
      · have hF := if_f h14 hF
        refine r_bipush (v := (-2 : Int32)) C dX10_setDown_35 rfl ?_
        exact r_ireturn C dX10_setDown_37 (rt_e hF)
  · have hF := if_t h16 hF
    refine r_iconst (v := (-1 : Int32)) C dX10_setDown_9 rfl ?_
    exact r_ireturn C dX10_setDown_10 (rt_e hF)
def F_X10_drop (a1 : Int32) (a2 : Int32) (a3 : Int32) (σ : St) : Option (Int32 × St) :=
  bd (F_X10_setDown a1 a2 a3 σ) fun r2 σ1 => some (r2, σ1)
set_option maxRecDepth 20000 in
set_option maxHeartbeats 4000000 in
theorem s_X10_drop (G : Gx) (l : Launch) {a1 : Int32} {a2 : Int32} {a3 : Int32} {σ σ' : St} {r : Int32} (hF : F_X10_drop a1 a2 a3 σ = some (r, σ')) : Sp G l yX10_drop cX10_drop 4 (some .int) (lvl 4) [vR (0, 0, 0), vI a1, vI a2, vI a3] σ (va_Qi (fun a b => a = r ∧ b = σ') (Wd G) (AG G)) := by
  refine Sp_of (own := RX10) (by decide) rfl (Nat.le_of_ble_eq_true rfl) ?_
  intro p e s m args below meth c C
  show Rt G p l e (lvl 4) s m args below meth c 0 0 (MQ below (va_Qi (fun a b => a = r ∧ b = σ') (Wd G) (AG G)) args s 0 0 (AG G)) 4 0 [(0, vR (0, 0, 0)), (1, vI a1), (2, vI a2), (3, vI a3)] [] σ
  unfold F_X10_drop at hF
  refine r_aload_n C 0 0 dX10_drop_0 rfl rfl ?_
  refine r_iload_n C 1 1 dX10_drop_1 rfl rfl ?_
  refine r_iload_n C 2 2 dX10_drop_2 rfl rfl ?_
  refine r_iload_n C 3 3 dX10_drop_3 rfl rfl ?_
  obtain ⟨r2, σ1, e3, hF⟩ := bd_e hF
  refine r_callV_i (as := [vI a1, vI a2, vI a3]) (st := []) C dX10_drop_4 (s_X10_setDown G l e3) rfl rfl rfl t_3_148 t_3_150 t_s_10 t_1_1 t_3_151 m_X10_setDown ⟨Nat.le_of_ble_eq_true rfl, Nat.le_of_ble_eq_true rfl⟩ ⟨rfl, rfl⟩ ⟨Nat.zero_le _, Nat.zero_le _⟩ rfl (Nat.le_of_ble_eq_true rfl) ?_
  exact r_ireturn C dX10_drop_7 (rt_e hF)
def F_X6_touches (q0 : Nat) (q1 : Nat) (i1 : Nat) (σ : St) : Option (Int32 × St) :=
  (if (σ.1 (7, q0, 0) 6) = 0 then some ((1 : Int32), σ) else bd (F_X6_kindAt q0 (σ.1 (10, q1, i1) 0) σ) fun r2 σ1 => (if r2 = (7 : Int32) then some ((1 : Int32), σ1) else some ((0 : Int32), σ1)))
set_option maxRecDepth 20000 in
set_option maxHeartbeats 4000000 in
theorem s_X6_touches (G : Gx) (l : Launch) {q0 : Nat} {q1 : Nat} {i1 : Nat} {σ σ' : St} {r : Int32} (hF : F_X6_touches q0 q1 i1 σ = some (r, σ')) : Sp G l yX6_touches cX6_touches 2 (some .boolean) (lvl 1) [vR (7, q0, 0), vR (10, q1, i1)] σ (va_Qi (fun a b => a = r ∧ b = σ') (Wd G) (AG G)) := by
  refine Sp_of (own := RX6) (by decide) rfl (Nat.le_of_ble_eq_true rfl) ?_
  intro p e s m args below meth c C
  show Rt G p l e (lvl 1) s m args below meth c 0 0 (MQ below (va_Qi (fun a b => a = r ∧ b = σ') (Wd G) (AG G)) args s 0 0 (AG G)) 2 0 [(0, vR (7, q0, 0)), (1, vR (10, q1, i1))] [] σ
  unfold F_X6_touches at hF
  refine r_aload_n C 0 0 dX6_touches_0 rfl rfl ?_
  refine r_getI (kf := 6) C dX6_touches_1 rfl rfl f_X6 (by decide) t_1_167 rfl ?_
  refine r_if_eq C 20 dX6_touches_4 (by decide)  (fun h5 => ?_) (fun h5 => ?_)
  · have hF := if_t h5 hF
    refine r_iconst (v := (1 : Int32)) C dX6_touches_20 rfl ?_
    refine r_goto C 25 dX6_touches_21 (by decide) ?_
    exact r_zreturn C dX6_touches_25 (nar_z (Or.inr rfl)) (rt_e hF)
  · have hF := if_f h5 hF
    refine r_aload_n C 0 0 dX6_touches_7 rfl rfl ?_
    refine r_aload_n C 1 1 dX6_touches_8 rfl rfl ?_
    refine r_getI (kf := 0) C dX6_touches_9 rfl rfl f_X0 (by decide) t_1_121 rfl ?_
    obtain ⟨r2, σ1, e3, hF⟩ := bd_e hF
    refine r_callV_i (as := [vI (σ.1 (10, q1, i1) 0)]) (st := []) C dX6_touches_12 (s_X6_kindAt G l e3) rfl rfl rfl t_3_165 t_3_122 t_3_123 t_1_5 t_3_124 m_X6_kindAt ⟨Nat.le_of_ble_eq_true rfl, Nat.le_of_ble_eq_true rfl⟩ ⟨rfl, rfl⟩ ⟨Nat.zero_le _, Nat.zero_le _⟩ rfl (Nat.le_of_ble_eq_true rfl) ?_
    refine r_bipush (v := (7 : Int32)) C dX6_touches_15 rfl ?_
    refine r_icmp_ne C 24 dX6_touches_17 (by decide)  (fun h4 => ?_) (fun h4 => ?_)
    · have hF := if_f h4 hF
      refine r_iconst (v := (0 : Int32)) C dX6_touches_24 rfl ?_
      exact r_zreturn C dX6_touches_25 (nar_z (Or.inl rfl)) (rt_e hF)
    · have hF := if_t h4 hF
      refine r_iconst (v := (1 : Int32)) C dX6_touches_20 rfl ?_
      refine r_goto C 25 dX6_touches_21 (by decide) ?_
      exact r_zreturn C dX6_touches_25 (nar_z (Or.inr rfl)) (rt_e hF)
def F_X5_losesFloatingAt (q0 : Nat) (a1 : Int32) (σ : St) : Option (Int32 × St) :=
  ck (inb (7 : Int32) 9) (nam (σ.1 (4, q0, 0) 7) fun x2 => (if x2 ≤ 0 then some ((0 : Int32), σ) else ck (decide (¬ x2 = 0)) ((if (a1 - a1 / x2 * x2) = 0 then some ((1 : Int32), σ) else some ((0 : Int32), σ)))))
set_option maxRecDepth 20000 in
set_option maxHeartbeats 4000000 in
theorem s_X5_losesFloatingAt (G : Gx) (l : Launch) {q0 : Nat} {a1 : Int32} {σ σ' : St} {r : Int32} (hF : F_X5_losesFloatingAt q0 a1 σ = some (r, σ')) : Sp G l yX5_losesFloatingAt cX5_losesFloatingAt 3 (some .boolean) (lvl 0) [vR (3, q0, 0), vI a1] σ (va_Qi (fun a b => a = r ∧ b = σ') (Wd G) (AG G)) := by
  refine Sp_of (own := RX5) (by decide) rfl (Nat.le_of_ble_eq_true rfl) ?_
  intro p e s m args below meth c C
  show Rt G p l e (lvl 0) s m args below meth c 0 0 (MQ below (va_Qi (fun a b => a = r ∧ b = σ') (Wd G) (AG G)) args s 0 0 (AG G)) 3 0 [(0, vR (3, q0, 0)), (1, vI a1)] [] σ
  unfold F_X5_losesFloatingAt at hF
  refine r_aload_n C 0 0 dX5_losesFloatingAt_0 rfl rfl ?_
  refine r_getR (kf := 0) (d2 := (4, q0, 0)) C dX5_losesFloatingAt_1 rfl rfl f_X5 (by decide) t_1_50 rfl rfl ?_
  refine r_bipush (v := (7 : Int32)) C dX5_losesFloatingAt_4 rfl ?_
  obtain ⟨h1, hF⟩ := ck_e hF
  refine r_iaload C 7 dX5_losesFloatingAt_6 rfl h1 rfl ?_
  obtain ⟨x2, ex2, hF⟩ := nam_e hF
  refine r_topI ex2 ?_
  refine r_istore_n (ls2 := [(2, vI x2), (0, vR (3, q0, 0)), (1, vI a1)]) C dX5_losesFloatingAt_7 2 rfl (by decide) rfl ?_
  refine r_iload_n C 0 2 dX5_losesFloatingAt_8 rfl rfl ?_
  refine r_if_le C 22 dX5_losesFloatingAt_9 (by decide)  (fun h5 => ?_) (fun h5 => ?_)
  · have hF := if_t h5 hF
    refine r_iconst (v := (0 : Int32)) C dX5_losesFloatingAt_22 rfl ?_
    exact r_zreturn C dX5_losesFloatingAt_23 (nar_z (Or.inl rfl)) (rt_e hF)
  · have hF := if_f h5 hF
    refine r_iload_n C 2 1 dX5_losesFloatingAt_12 rfl rfl ?_
    refine r_iload_n C 0 2 dX5_losesFloatingAt_13 rfl rfl ?_
    obtain ⟨h3, hF⟩ := ck_e hF
    refine r_irem C dX5_losesFloatingAt_14 (nz h3) ?_
    refine r_if_ne C 22 dX5_losesFloatingAt_15 (by decide)  (fun h4 => ?_) (fun h4 => ?_)
    · have hF := if_f h4 hF
      refine r_iconst (v := (0 : Int32)) C dX5_losesFloatingAt_22 rfl ?_
      exact r_zreturn C dX5_losesFloatingAt_23 (nar_z (Or.inl rfl)) (rt_e hF)
    · have hF := if_t h4 hF
      refine r_iconst (v := (1 : Int32)) C dX5_losesFloatingAt_18 rfl ?_
      refine r_goto C 23 dX5_losesFloatingAt_19 (by decide) ?_
      exact r_zreturn C dX5_losesFloatingAt_23 (nar_z (Or.inr rfl)) (rt_e hF)
def F_X6_drawWay (q0 : Nat) (σ : St) : Option (Int32 × St) :=
  nam (uI σ (7, q0, 0) 5 (((σ.1 (7, q0, 0) 5) * (1103515245 : Int32)) + (12345 : Int32))) fun σ1 => some ((((σ1.1 (7, q0, 0) 5).toUInt32 >>> ((16 : Int32).toUInt32 &&& Int32.toUInt32 31)).toInt32) &&& (3 : Int32), σ1)
set_option maxRecDepth 20000 in
set_option maxHeartbeats 4000000 in
theorem s_X6_drawWay (G : Gx) (l : Launch) {q0 : Nat} {σ σ' : St} {r : Int32} (hF : F_X6_drawWay q0 σ = some (r, σ')) : Sp G l yX6_drawWay cX6_drawWay 1 (some .int) (lvl 0) [vR (7, q0, 0)] σ (va_Qi (fun a b => a = r ∧ b = σ') (Wd G) (AG G)) := by
  refine Sp_of (own := RX6) (by decide) rfl (Nat.le_of_ble_eq_true rfl) ?_
  intro p e s m args below meth c C
  show Rt G p l e (lvl 0) s m args below meth c 0 0 (MQ below (va_Qi (fun a b => a = r ∧ b = σ') (Wd G) (AG G)) args s 0 0 (AG G)) 1 0 [(0, vR (7, q0, 0))] [] σ
  unfold F_X6_drawWay at hF
  refine r_aload_n C 0 0 dX6_drawWay_0 rfl rfl ?_
  refine r_aload_n C 0 0 dX6_drawWay_1 rfl rfl ?_
  refine r_getI (kf := 5) C dX6_drawWay_2 rfl rfl f_X6 (by decide) t_1_165 rfl ?_
  refine r_ldc (v := (1103515245 : Int32)) C dX6_drawWay_5 t_3_227 ?_
  refine r_imul C dX6_drawWay_7 ?_
  refine r_sipush (v := (12345 : Int32)) C dX6_drawWay_8 rfl ?_
  refine r_iadd C dX6_drawWay_11 ?_
  obtain ⟨σ1, eσ1, hF⟩ := nam_e hF
  refine r_put (kf := 5) (ty0 := tyX6) C dX6_drawWay_12 rfl rfl f_X6 tyX6_ok nmX6 (by decide) t_1_165 rfl rfl rfl rfl eσ1 ?_
  refine r_aload_n C 0 0 dX6_drawWay_15 rfl rfl ?_
  refine r_getI (kf := 5) C dX6_drawWay_16 rfl rfl f_X6 (by decide) t_1_165 rfl ?_
  refine r_bipush (v := (16 : Int32)) C dX6_drawWay_19 rfl ?_
  refine r_iushr C dX6_drawWay_21 ?_
  refine r_iconst (v := (3 : Int32)) C dX6_drawWay_22 rfl ?_
  refine r_iand C dX6_drawWay_23 ?_
  exact r_ireturn C dX6_drawWay_24 (rt_e hF)
def F_X5_teethSend (q0 : Nat) (a1 : Int32) (σ : St) : Option (Int32 × St) :=
  ck (inb (2 : Int32) 9) ((if a1 < (σ.1 (4, q0, 0) 2) then some ((0 : Int32), σ) else ck (inb (3 : Int32) 9) ((if (σ.1 (4, q0, 0) 3) < a1 then some ((0 : Int32), σ) else some ((1 : Int32), σ)))))
set_option maxRecDepth 20000 in
set_option maxHeartbeats 4000000 in
theorem s_X5_teethSend (G : Gx) (l : Launch) {q0 : Nat} {a1 : Int32} {σ σ' : St} {r : Int32} (hF : F_X5_teethSend q0 a1 σ = some (r, σ')) : Sp G l yX5_teethSend cX5_teethSend 2 (some .boolean) (lvl 0) [vR (3, q0, 0), vI a1] σ (va_Qi (fun a b => a = r ∧ b = σ') (Wd G) (AG G)) := by
  refine Sp_of (own := RX5) (by decide) rfl (Nat.le_of_ble_eq_true rfl) ?_
  intro p e s m args below meth c C
  show Rt G p l e (lvl 0) s m args below meth c 0 0 (MQ below (va_Qi (fun a b => a = r ∧ b = σ') (Wd G) (AG G)) args s 0 0 (AG G)) 2 0 [(0, vR (3, q0, 0)), (1, vI a1)] [] σ
  unfold F_X5_teethSend at hF
  refine r_iload_n C 1 1 dX5_teethSend_0 rfl rfl ?_
  refine r_aload_n C 0 0 dX5_teethSend_1 rfl rfl ?_
  refine r_getR (kf := 0) (d2 := (4, q0, 0)) C dX5_teethSend_2 rfl rfl f_X5 (by decide) t_1_50 rfl rfl ?_
  refine r_iconst (v := (2 : Int32)) C dX5_teethSend_5 rfl ?_
  obtain ⟨h1, hF⟩ := ck_e hF
  refine r_iaload C 2 dX5_teethSend_6 rfl h1 rfl ?_
  refine r_icmp_lt C 24 dX5_teethSend_7 (by decide)  (fun h4 => ?_) (fun h4 => ?_)
  · have hF := if_t h4 hF
    refine r_iconst (v := (0 : Int32)) C dX5_teethSend_24 rfl ?_
    exact r_zreturn C dX5_teethSend_25 (nar_z (Or.inl rfl)) (rt_e hF)
  · have hF := if_f h4 hF
    refine r_iload_n C 1 1 dX5_teethSend_10 rfl rfl ?_
    refine r_aload_n C 0 0 dX5_teethSend_11 rfl rfl ?_
    refine r_getR (kf := 0) (d2 := (4, q0, 0)) C dX5_teethSend_12 rfl rfl f_X5 (by decide) t_1_50 rfl rfl ?_
    refine r_iconst (v := (3 : Int32)) C dX5_teethSend_15 rfl ?_
    obtain ⟨h2, hF⟩ := ck_e hF
    refine r_iaload C 3 dX5_teethSend_16 rfl h2 rfl ?_
    refine r_icmp_gt C 24 dX5_teethSend_17 (by decide)  (fun h3 => ?_) (fun h3 => ?_)
    · have hF := if_t h3 hF
      refine r_iconst (v := (0 : Int32)) C dX5_teethSend_24 rfl ?_
      exact r_zreturn C dX5_teethSend_25 (nar_z (Or.inl rfl)) (rt_e hF)
    · have hF := if_f h3 hF
      refine r_iconst (v := (1 : Int32)) C dX5_teethSend_20 rfl ?_
      refine r_goto C 25 dX5_teethSend_21 (by decide) ?_
      exact r_zreturn C dX5_teethSend_25 (nar_z (Or.inr rfl)) (rt_e hF)
def F_X6_wayOf (q0 : Nat) (q1 : Nat) (i1 : Nat) (q2 : Nat) (a3 : Int32) (σ : St) : Option (Int32 × St) :=
  bd (F_X6_kindAt q0 (σ.1 (10, q1, i1) 0) σ) fun r2 σ1 => (if (4 : Int32) ≤ r2 then (if a3 < (σ1.1 (10, q1, i1) 1) then some (σ1.1 (10, q1, i1) 2, σ1) else bd (F_X6_drawWay q0 σ1) fun r5 σ4 => some (r5, σ4)) else bd (F_X5_teethSend q2 (σ1.1 (10, q1, i1) 1) σ1) fun r9 σ8 => (if r9 = 0 then some (σ8.1 (10, q1, i1) 2, σ8) else some (r2, σ8)))
set_option maxRecDepth 20000 in
set_option maxHeartbeats 4000000 in
theorem s_X6_wayOf (G : Gx) (l : Launch) {q0 : Nat} {q1 : Nat} {i1 : Nat} {q2 : Nat} {a3 : Int32} {σ σ' : St} {r : Int32} (hF : F_X6_wayOf q0 q1 i1 q2 a3 σ = some (r, σ')) : Sp G l yX6_wayOf cX6_wayOf 5 (some .int) (lvl 1) [vR (7, q0, 0), vR (10, q1, i1), vR (3, q2, 0), vI a3] σ (va_Qi (fun a b => a = r ∧ b = σ') (Wd G) (AG G)) := by
  refine Sp_of (own := RX6) (by decide) rfl (Nat.le_of_ble_eq_true rfl) ?_
  intro p e s m args below meth c C
  show Rt G p l e (lvl 1) s m args below meth c 0 0 (MQ below (va_Qi (fun a b => a = r ∧ b = σ') (Wd G) (AG G)) args s 0 0 (AG G)) 5 0 [(0, vR (7, q0, 0)), (1, vR (10, q1, i1)), (2, vR (3, q2, 0)), (3, vI a3)] [] σ
  unfold F_X6_wayOf at hF
  refine r_aload_n C 0 0 dX6_wayOf_0 rfl rfl ?_
  refine r_aload_n C 1 1 dX6_wayOf_1 rfl rfl ?_
  refine r_getI (kf := 0) C dX6_wayOf_2 rfl rfl f_X0 (by decide) t_1_121 rfl ?_
  obtain ⟨r2, σ1, e3, hF⟩ := bd_e hF
  refine r_callV_i (as := [vI (σ.1 (10, q1, i1) 0)]) (st := []) C dX6_wayOf_5 (s_X6_kindAt G l e3) rfl rfl rfl t_3_165 t_3_122 t_3_123 t_1_5 t_3_124 m_X6_kindAt ⟨Nat.le_of_ble_eq_true rfl, Nat.le_of_ble_eq_true rfl⟩ ⟨rfl, rfl⟩ ⟨Nat.zero_le _, Nat.zero_le _⟩ rfl (Nat.le_of_ble_eq_true rfl) ?_
  refine r_istore (ls2 := [(4, vI r2), (0, vR (7, q0, 0)), (1, vR (10, q1, i1)), (2, vR (3, q2, 0)), (3, vI a3)]) C dX6_wayOf_8 (by decide) rfl ?_
  refine r_iload C 0 dX6_wayOf_10 rfl ?_
  refine r_iconst (v := (4 : Int32)) C dX6_wayOf_12 rfl ?_
  refine r_icmp_ge C 37 dX6_wayOf_13 (by decide)  (fun h12 => ?_) (fun h12 => ?_)
  · have hF := if_t h12 hF
    refine r_aload_n C 2 1 dX6_wayOf_37 rfl rfl ?_
    refine r_getI (kf := 1) C dX6_wayOf_38 rfl rfl f_X0 (by decide) t_1_124 rfl ?_
    refine r_iload_n C 4 3 dX6_wayOf_41 rfl rfl ?_
    refine r_icmp_gt C 52 dX6_wayOf_42 (by decide)  (fun h7 => ?_) (fun h7 => ?_)
    · have hF := if_t h7 hF
      refine r_aload_n C 2 1 dX6_wayOf_52 rfl rfl ?_
      refine r_getI (kf := 2) C dX6_wayOf_53 rfl rfl f_X0 (by decide) t_1_129 rfl ?_
      exact r_ireturn C dX6_wayOf_56 (rt_e hF)
    · have hF := if_f h7 hF
      refine r_aload_n C 1 0 dX6_wayOf_45 rfl rfl ?_
      obtain ⟨r5, σ4, e6, hF⟩ := bd_e hF
      refine r_callV_i (as := []) (st := []) C dX6_wayOf_46 (s_X6_drawWay G l e6) rfl rfl rfl t_3_223 t_3_225 t_s_14 t_1_5 t_3_226 m_X6_drawWay ⟨Nat.le_of_ble_eq_true rfl, Nat.le_of_ble_eq_true rfl⟩ ⟨rfl, rfl⟩ ⟨Nat.zero_le _, Nat.zero_le _⟩ rfl (Nat.le_of_ble_eq_true rfl) ?_
      refine r_goto C 56 dX6_wayOf_49 (by decide) ?_
      exact r_ireturn C dX6_wayOf_56 (rt_e hF)
  · have hF := if_f h12 hF
    refine r_aload_n C 3 2 dX6_wayOf_16 rfl rfl ?_
    refine r_aload_n C 2 1 dX6_wayOf_17 rfl rfl ?_
    refine r_getI (kf := 1) C dX6_wayOf_18 rfl rfl f_X0 (by decide) t_1_124 rfl ?_
    obtain ⟨r9, σ8, e10, hF⟩ := bd_e hF
    refine r_callV_i (as := [vI (σ1.1 (10, q1, i1) 1)]) (st := []) C dX6_wayOf_21 (s_X5_teethSend G l e10) rfl rfl rfl t_3_219 t_3_220 t_3_221 t_1_3 t_3_222 m_X5_teethSend ⟨Nat.le_of_ble_eq_true rfl, Nat.le_of_ble_eq_true rfl⟩ ⟨rfl, rfl⟩ ⟨Nat.zero_le _, Nat.zero_le _⟩ rfl (Nat.le_of_ble_eq_true rfl) ?_
    refine r_if_eq C 32 dX6_wayOf_24 (by decide)  (fun h11 => ?_) (fun h11 => ?_)
    · have hF := if_t h11 hF
      refine r_aload_n C 2 1 dX6_wayOf_32 rfl rfl ?_
      refine r_getI (kf := 2) C dX6_wayOf_33 rfl rfl f_X0 (by decide) t_1_129 rfl ?_
      exact r_ireturn C dX6_wayOf_36 (rt_e hF)
    · have hF := if_f h11 hF
      refine r_iload C 0 dX6_wayOf_27 rfl ?_
      refine r_goto C 36 dX6_wayOf_29 (by decide) ?_
      exact r_ireturn C dX6_wayOf_36 (rt_e hF)
def F_X10_nextCell (a0 : Int32) (a1 : Int32) (σ : St) : Option (Int32 × St) :=
  ck (decide (¬ (12 : Int32) = 0)) (nam (a0 / (12 : Int32)) fun x2 => ck (decide (¬ (12 : Int32) = 0)) (nam (a0 - a0 / (12 : Int32) * (12 : Int32)) fun x4 => (if a1 = (0 : Int32) then (if x2 ≤ 0 then some ((-4 : Int32), σ) else some (a0 - (12 : Int32), σ)) else (if a1 = (1 : Int32) then (if (11 : Int32) ≤ x4 then some ((-4 : Int32), σ) else some (a0 + (1 : Int32), σ)) else (if a1 = (2 : Int32) then (if (7 : Int32) ≤ x2 then some ((-4 : Int32), σ) else some (a0 + (12 : Int32), σ)) else (if a1 = (3 : Int32) then (if x4 ≤ 0 then some ((-4 : Int32), σ) else some (a0 - (1 : Int32), σ)) else some ((-4 : Int32), σ)))))))
set_option maxRecDepth 20000 in
set_option maxHeartbeats 4000000 in
theorem s_X10_nextCell (G : Gx) (l : Launch) {a0 : Int32} {a1 : Int32} {σ σ' : St} {r : Int32} (hF : F_X10_nextCell a0 a1 σ = some (r, σ')) : Sp G l yX10_nextCell cX10_nextCell 4 (some .int) (lvl 0) [vI a0, vI a1] σ (va_Qi (fun a b => a = r ∧ b = σ') (Wd G) (AG G)) := by
  refine Sp_of (own := RX10) (by decide) rfl (Nat.le_of_ble_eq_true rfl) ?_
  intro p e s m args below meth c C
  show Rt G p l e (lvl 0) s m args below meth c 0 0 (MQ below (va_Qi (fun a b => a = r ∧ b = σ') (Wd G) (AG G)) args s 0 0 (AG G)) 4 0 [(0, vI a0), (1, vI a1)] [] σ
  unfold F_X10_nextCell at hF
  refine r_iload_n C 0 0 dX10_nextCell_0 rfl rfl ?_
  refine r_bipush (v := (12 : Int32)) C dX10_nextCell_1 rfl ?_
  obtain ⟨h1, hF⟩ := ck_e hF
  refine r_idiv C dX10_nextCell_3 (nz h1) ?_
  obtain ⟨x2, ex2, hF⟩ := nam_e hF
  refine r_topI ex2 ?_
  refine r_istore_n (ls2 := [(2, vI x2), (0, vI a0), (1, vI a1)]) C dX10_nextCell_4 2 rfl (by decide) rfl ?_
  refine r_iload_n C 1 0 dX10_nextCell_5 rfl rfl ?_
  refine r_bipush (v := (12 : Int32)) C dX10_nextCell_6 rfl ?_
  obtain ⟨h3, hF⟩ := ck_e hF
  refine r_irem C dX10_nextCell_8 (nz h3) ?_
  obtain ⟨x4, ex4, hF⟩ := nam_e hF
  refine r_topI ex4 ?_
  refine r_istore_n (ls2 := [(3, vI x4), (2, vI x2), (0, vI a0), (1, vI a1)]) C dX10_nextCell_9 3 rfl (by decide) rfl ?_
  refine r_iload_n C 3 1 dX10_nextCell_10 rfl rfl ?_
  by_cases h5 : a1 = (0 : Int32)
  · have hF := if_t h5 hF
    refine r_tabIn (off := 29) C 40 dX10_nextCell_11 (by rw [h5]; decide) (by rw [h5]; decide) (by rw [h5]; rfl) (by decide) ?_
    refine r_iload_n C 1 2 dX10_nextCell_40 rfl rfl ?_
    refine r_if_le C 51 dX10_nextCell_41 (by decide)  (fun h6 => ?_) (fun h6 => ?_)
    · have hF := if_t h6 hF
      refine r_bipush (v := (-4 : Int32)) C dX10_nextCell_51 rfl ?_
      exact r_ireturn C dX10_nextCell_53 (rt_e hF)
    · have hF := if_f h6 hF
      refine r_iload_n C 2 0 dX10_nextCell_44 rfl rfl ?_
      refine r_bipush (v := (12 : Int32)) C dX10_nextCell_45 rfl ?_
      refine r_isub C dX10_nextCell_47 ?_
      refine r_goto C 53 dX10_nextCell_48 (by decide) ?_
      exact r_ireturn C dX10_nextCell_53 (rt_e hF)
  have hF := if_f h5 hF
  by_cases h7 : a1 = (1 : Int32)
  · have hF := if_t h7 hF
    refine r_tabIn (off := 43) C 54 dX10_nextCell_11 (by rw [h7]; decide) (by rw [h7]; decide) (by rw [h7]; rfl) (by decide) ?_
    refine r_iload_n C 0 3 dX10_nextCell_54 rfl rfl ?_
    refine r_bipush (v := (11 : Int32)) C dX10_nextCell_55 rfl ?_
    refine r_icmp_ge C 66 dX10_nextCell_57 (by decide)  (fun h8 => ?_) (fun h8 => ?_)
    · have hF := if_t h8 hF
      refine r_bipush (v := (-4 : Int32)) C dX10_nextCell_66 rfl ?_
      exact r_ireturn C dX10_nextCell_68 (rt_e hF)
    · have hF := if_f h8 hF
      refine r_iload_n C 2 0 dX10_nextCell_60 rfl rfl ?_
      refine r_iconst (v := (1 : Int32)) C dX10_nextCell_61 rfl ?_
      refine r_iadd C dX10_nextCell_62 ?_
      refine r_goto C 68 dX10_nextCell_63 (by decide) ?_
      exact r_ireturn C dX10_nextCell_68 (rt_e hF)
  have hF := if_f h7 hF
  by_cases h9 : a1 = (2 : Int32)
  · have hF := if_t h9 hF
    refine r_tabIn (off := 58) C 69 dX10_nextCell_11 (by rw [h9]; decide) (by rw [h9]; decide) (by rw [h9]; rfl) (by decide) ?_
    refine r_iload_n C 1 2 dX10_nextCell_69 rfl rfl ?_
    refine r_bipush (v := (7 : Int32)) C dX10_nextCell_70 rfl ?_
    refine r_icmp_ge C 82 dX10_nextCell_72 (by decide)  (fun h10 => ?_) (fun h10 => ?_)
    · have hF := if_t h10 hF
      refine r_bipush (v := (-4 : Int32)) C dX10_nextCell_82 rfl ?_
      exact r_ireturn C dX10_nextCell_84 (rt_e hF)
    · have hF := if_f h10 hF
      refine r_iload_n C 2 0 dX10_nextCell_75 rfl rfl ?_
      refine r_bipush (v := (12 : Int32)) C dX10_nextCell_76 rfl ?_
      refine r_iadd C dX10_nextCell_78 ?_
      refine r_goto C 84 dX10_nextCell_79 (by decide) ?_
      exact r_ireturn C dX10_nextCell_84 (rt_e hF)
  have hF := if_f h9 hF
  by_cases h11 : a1 = (3 : Int32)
  · have hF := if_t h11 hF
    refine r_tabIn (off := 74) C 85 dX10_nextCell_11 (by rw [h11]; decide) (by rw [h11]; decide) (by rw [h11]; rfl) (by decide) ?_
    refine r_iload_n C 0 3 dX10_nextCell_85 rfl rfl ?_
    refine r_if_le C 95 dX10_nextCell_86 (by decide)  (fun h12 => ?_) (fun h12 => ?_)
    · have hF := if_t h12 hF
      refine r_bipush (v := (-4 : Int32)) C dX10_nextCell_95 rfl ?_
      exact r_ireturn C dX10_nextCell_97 (rt_e hF)
    · have hF := if_f h12 hF
      refine r_iload_n C 2 0 dX10_nextCell_89 rfl rfl ?_
      refine r_iconst (v := (1 : Int32)) C dX10_nextCell_90 rfl ?_
      refine r_isub C dX10_nextCell_91 ?_
      refine r_goto C 97 dX10_nextCell_92 (by decide) ?_
      exact r_ireturn C dX10_nextCell_97 (rt_e hF)
  have hF := if_f h11 hF
  refine r_tabOut C 98 dX10_nextCell_11 (by have u0 := lv_neT h5 (a := 0) rfl; have u1 := lv_neT h7 (a := 1) rfl; have u2 := lv_neT h9 (a := 2) rfl; have u3 := lv_neT h11 (a := 3) rfl; omega) (by decide) ?_
  refine r_bipush (v := (-4 : Int32)) C dX10_nextCell_98 rfl ?_
  exact r_ireturn C dX10_nextCell_100 (rt_e hF)
def F_X6_stepOn (q0 : Nat) (q1 : Nat) (i1 : Nat) (a2 : Int32) (σ : St) : Option (Unit × St) :=
  bd (F_X10_nextCell (σ.1 (10, q1, i1) 0) a2 σ) fun r2 σ1 => bd (F_X6_kindAt q0 r2 σ1) fun r5 σ4 => (if r5 = (5 : Int32) then nam (uI σ4 (10, q1, i1) 2 ((a2 + (1 : Int32)) &&& (3 : Int32))) fun σ9 => some ((), σ9) else nam (uI σ4 (10, q1, i1) 0 r2) fun σ7 => nam (uI σ7 (10, q1, i1) 2 a2) fun σ8 => some ((), σ8))
set_option maxRecDepth 20000 in
set_option maxHeartbeats 4000000 in
theorem s_X6_stepOn (G : Gx) (l : Launch) {q0 : Nat} {q1 : Nat} {i1 : Nat} {a2 : Int32} {σ σ' : St}  (hF : F_X6_stepOn q0 q1 i1 a2 σ = some ((), σ')) : Sp G l yX6_stepOn cX6_stepOn 4 none (lvl 1) [vR (7, q0, 0), vR (10, q1, i1), vI a2] σ (va_Qv (fun b => b = σ') (Wd G) (AG G)) := by
  refine Sp_of (own := RX6) (by decide) rfl (Nat.le_of_ble_eq_true rfl) ?_
  intro p e s m args below meth c C
  show Rt G p l e (lvl 1) s m args below meth c 0 0 (MQ below (va_Qv (fun b => b = σ') (Wd G) (AG G)) args s 0 0 (AG G)) 4 0 [(0, vR (7, q0, 0)), (1, vR (10, q1, i1)), (2, vI a2)] [] σ
  unfold F_X6_stepOn at hF
  refine r_aload_n C 1 1 dX6_stepOn_0 rfl rfl ?_
  refine r_getI (kf := 0) C dX6_stepOn_1 rfl rfl f_X0 (by decide) t_1_121 rfl ?_
  refine r_iload_n C 2 2 dX6_stepOn_4 rfl rfl ?_
  obtain ⟨r2, σ1, e3, hF⟩ := bd_e hF
  refine r_callN_i (as := [vI (σ.1 (10, q1, i1) 0), vI a2]) (st := []) C dX6_stepOn_5 (s_X10_nextCell G l e3) (by decide) t_3_233 t_1_1 t_3_234 m_X10_nextCell ⟨Nat.le_of_ble_eq_true rfl, Nat.le_of_ble_eq_true rfl⟩ ⟨rfl, rfl⟩ ⟨Nat.zero_le _, Nat.zero_le _⟩ rfl (Nat.le_of_ble_eq_true rfl) ?_
  refine r_istore_n (ls2 := [(3, vI r2), (0, vR (7, q0, 0)), (1, vR (10, q1, i1)), (2, vI a2)]) C dX6_stepOn_8 3 rfl (by decide) rfl ?_
  refine r_aload_n C 1 0 dX6_stepOn_9 rfl rfl ?_
  refine r_iload_n C 0 3 dX6_stepOn_10 rfl rfl ?_
  obtain ⟨r5, σ4, e6, hF⟩ := bd_e hF
  refine r_callV_i (as := [vI r2]) (st := []) C dX6_stepOn_11 (s_X6_kindAt G l e6) rfl rfl rfl t_3_165 t_3_122 t_3_123 t_1_5 t_3_124 m_X6_kindAt ⟨Nat.le_of_ble_eq_true rfl, Nat.le_of_ble_eq_true rfl⟩ ⟨rfl, rfl⟩ ⟨Nat.zero_le _, Nat.zero_le _⟩ rfl (Nat.le_of_ble_eq_true rfl) ?_
  refine r_iconst (v := (5 : Int32)) C dX6_stepOn_14 rfl ?_
  refine r_icmp_ne C 30 dX6_stepOn_15 (by decide)  (fun h10 => ?_) (fun h10 => ?_)
  · have hF := if_f h10 hF
    refine r_aload_n C 2 1 dX6_stepOn_30 rfl rfl ?_
    refine r_iload_n C 0 3 dX6_stepOn_31 rfl rfl ?_
    obtain ⟨σ7, eσ7, hF⟩ := nam_e hF
    refine r_put (kf := 0) (ty0 := tyX0) C dX6_stepOn_32 rfl rfl f_X0 tyX0_ok nmX0 (by decide) t_1_121 rfl rfl rfl rfl eσ7 ?_
    refine r_aload_n C 2 1 dX6_stepOn_35 rfl rfl ?_
    refine r_iload_n C 3 2 dX6_stepOn_36 rfl rfl ?_
    obtain ⟨σ8, eσ8, hF⟩ := nam_e hF
    refine r_put (kf := 2) (ty0 := tyX0) C dX6_stepOn_37 rfl rfl f_X0 tyX0_ok nmX0 (by decide) t_1_129 rfl rfl rfl rfl eσ8 ?_
    exact r_return C dX6_stepOn_40 (rv_e hF)
  · have hF := if_t h10 hF
    refine r_aload_n C 2 1 dX6_stepOn_18 rfl rfl ?_
    refine r_iload_n C 3 2 dX6_stepOn_19 rfl rfl ?_
    refine r_iconst (v := (1 : Int32)) C dX6_stepOn_20 rfl ?_
    refine r_iadd C dX6_stepOn_21 ?_
    refine r_iconst (v := (3 : Int32)) C dX6_stepOn_22 rfl ?_
    refine r_iand C dX6_stepOn_23 ?_
    obtain ⟨σ9, eσ9, hF⟩ := nam_e hF
    refine r_put (kf := 2) (ty0 := tyX0) C dX6_stepOn_24 rfl rfl f_X0 tyX0_ok nmX0 (by decide) t_1_129 rfl rfl rfl rfl eσ9 ?_
    refine r_goto C 40 dX6_stepOn_27 (by decide) ?_
    exact r_return C dX6_stepOn_40 (rv_e hF)
def F_X6_leave (q0 : Nat) (q1 : Nat) (i1 : Nat) (a2 : Int32) (σ : St) : Option (Unit × St) :=
  nam (uI σ (10, q1, i1) 3 a2) fun σ1 => nam (uI σ1 (10, q1, i1) 4 (σ1.1 (7, q0, 0) 4)) fun σ2 => some ((), σ2)
set_option maxRecDepth 20000 in
set_option maxHeartbeats 4000000 in
theorem s_X6_leave (G : Gx) (l : Launch) {q0 : Nat} {q1 : Nat} {i1 : Nat} {a2 : Int32} {σ σ' : St}  (hF : F_X6_leave q0 q1 i1 a2 σ = some ((), σ')) : Sp G l yX6_leave cX6_leave 3 none (lvl 0) [vR (7, q0, 0), vR (10, q1, i1), vI a2] σ (va_Qv (fun b => b = σ') (Wd G) (AG G)) := by
  refine Sp_of (own := RX6) (by decide) rfl (Nat.le_of_ble_eq_true rfl) ?_
  intro p e s m args below meth c C
  show Rt G p l e (lvl 0) s m args below meth c 0 0 (MQ below (va_Qv (fun b => b = σ') (Wd G) (AG G)) args s 0 0 (AG G)) 3 0 [(0, vR (7, q0, 0)), (1, vR (10, q1, i1)), (2, vI a2)] [] σ
  unfold F_X6_leave at hF
  refine r_aload_n C 1 1 dX6_leave_0 rfl rfl ?_
  refine r_iload_n C 2 2 dX6_leave_1 rfl rfl ?_
  obtain ⟨σ1, eσ1, hF⟩ := nam_e hF
  refine r_put (kf := 3) (ty0 := tyX0) C dX6_leave_2 rfl rfl f_X0 tyX0_ok nmX0 (by decide) t_1_132 rfl rfl rfl rfl eσ1 ?_
  refine r_aload_n C 1 1 dX6_leave_5 rfl rfl ?_
  refine r_aload_n C 0 0 dX6_leave_6 rfl rfl ?_
  refine r_getI (kf := 4) C dX6_leave_7 rfl rfl f_X6 (by decide) t_1_163 rfl ?_
  obtain ⟨σ2, eσ2, hF⟩ := nam_e hF
  refine r_put (kf := 4) (ty0 := tyX0) C dX6_leave_10 rfl rfl f_X0 tyX0_ok nmX0 (by decide) t_1_136 rfl rfl rfl rfl eσ2 ?_
  exact r_return C dX6_leave_13 (rv_e hF)
def L_X6_joinWhoIsThere_2 (q0 : Nat) (q1 : Nat) (i1 : Nat) : Nat → Int32 → St → (Int32 → Nat → Nat → St → Option (Unit × St)) → Option (Unit × St)
  | 0, _, _, _ => none
  | n + 1, v2, τ, kx40 =>
  (if (τ.1 (7, q0, 0) 2) ≤ v2 then some ((), τ) else ck (inb v2 12) ((if ((10, q0, (v2.toNatClampNeg)) : Id3) = (10, q1, i1) then nam (v2 + (1 : Int32)) fun x2 => L_X6_joinWhoIsThere_2 q0 q1 i1 n x2 τ kx40 else (if (τ.1 (10, q0, (v2.toNatClampNeg)) 3) = 0 then (if (τ.1 (10, q0, (v2.toNatClampNeg)) 0) = (τ.1 (10, q1, i1) 0) then kx40 v2 q0 (v2.toNatClampNeg) τ else nam (v2 + (1 : Int32)) fun x4 => L_X6_joinWhoIsThere_2 q0 q1 i1 n x4 τ kx40) else nam (v2 + (1 : Int32)) fun x3 => L_X6_joinWhoIsThere_2 q0 q1 i1 n x3 τ kx40))))
def F_X6_joinWhoIsThere (q0 : Nat) (q1 : Nat) (i1 : Nat) (σ : St) : Option (Unit × St) :=
  L_X6_joinWhoIsThere_2 q0 q1 i1 FU (0 : Int32) σ (fun (y10 : Int32) (y11q : Nat) (y11i : Nat) (σ9 : St) => nam (uI σ9 (10, y11q, y11i) 1 ((σ9.1 (10, y11q, y11i) 1) + (σ9.1 (10, q1, i1) 1))) fun σ12 => nam (uI σ12 (10, q1, i1) 5 y10) fun σ13 => bd (F_X6_leave q0 q1 i1 (4 : Int32) σ13) fun _ σ14 => some ((), σ14))
set_option maxRecDepth 20000 in
set_option maxHeartbeats 4000000 in
theorem l_X6_joinWhoIsThere_2 {G : Gx} {p : Program} {l : Launch} {e : Env} {s : State} {m : MethodId} {args : Array Value} {below : List Frame} {meth : Method} {c : Code} (C : Cx G p s m args meth c none 4 RX6 cX6_joinWhoIsThere) (q0 : Nat) (q1 : Nat) (i1 : Nat) {σ' : St}  (kx40 : Int32 → Nat → Nat → St → Option (Unit × St)) (hkx40 : ∀ (w2 : Int32) (w3q : Nat) (w3i : Nat) (τ : St), kx40 w2 w3q w3i τ = some ((), σ') → Rt G p l e (lvl 1) s m args below meth c 0 0 (MQ below (va_Qv (fun b => b = σ') (Wd G) (AG G)) args s 0 0 (AG G)) 4 40 [(0, vR (7, q0, 0)), (1, vR (10, q1, i1)), (2, vI w2), (3, vR (10, w3q, w3i))] [] τ) : ∀ (n : Nat) (v2 : Int32) (τ : St), L_X6_joinWhoIsThere_2 q0 q1 i1 n v2 τ kx40 = some ((), σ') → Rt G p l e (lvl 1) s m args below meth c 0 0 (MQ below (va_Qv (fun b => b = σ') (Wd G) (AG G)) args s 0 0 (AG G)) 4 2 [(0, vR (7, q0, 0)), (1, vR (10, q1, i1)), (2, vI v2)] [] τ := by
  intro n
  induction n with
  | zero => intro v2 τ hF; cases hF
  | succ n ih =>
    intro v2 τ hF
    unfold L_X6_joinWhoIsThere_2 at hF
    refine r_iload_n C 2 2 dX6_joinWhoIsThere_2 rfl rfl ?_
    refine r_aload_n C 0 0 dX6_joinWhoIsThere_3 rfl rfl ?_
    refine r_getI (kf := 2) C dX6_joinWhoIsThere_4 rfl rfl f_X6 (by decide) t_1_159 rfl ?_
    refine r_icmp_ge C 71 dX6_joinWhoIsThere_7 (by decide)  (fun h8 => ?_) (fun h8 => ?_)
    · have hF := if_t h8 hF
      exact r_return C dX6_joinWhoIsThere_71 (rv_e hF)
    · have hF := if_f h8 hF
      refine r_aload_n C 0 0 dX6_joinWhoIsThere_10 rfl rfl ?_
      refine r_getR (kf := 1) (d2 := (9, q0, 0)) C dX6_joinWhoIsThere_11 rfl rfl f_X6 (by decide) t_1_156 rfl rfl ?_
      refine r_iload_n C 2 2 dX6_joinWhoIsThere_14 rfl rfl ?_
      obtain ⟨h1, hF⟩ := ck_e hF
      refine r_aaload (cA := 0) (d2 := (10, q0, (v2.toNatClampNeg))) C dX6_joinWhoIsThere_15 rfl rfl h1 rfl ?_
      refine r_astore_n (ls2 := [(3, vR (10, q0, (v2.toNatClampNeg))), (0, vR (7, q0, 0)), (1, vR (10, q1, i1)), (2, vI v2)]) C dX6_joinWhoIsThere_16 3 rfl (by decide) rfl ?_
      refine r_aload_n C 0 3 dX6_joinWhoIsThere_17 rfl rfl ?_
      refine r_aload_n C 2 1 dX6_joinWhoIsThere_18 rfl rfl ?_
      refine r_acmp_eq C 65 dX6_joinWhoIsThere_19 (by decide) (Nat.le_of_ble_eq_true rfl) (Nat.le_of_ble_eq_true rfl) (fun h7 => ?_) (fun h7 => ?_)
      · have hF := if_t h7 hF
        obtain ⟨x2, ex2, hF⟩ := nam_e hF
        refine r_iinc (v := x2) (ls2 := [(2, vI x2), (3, vR (10, q0, (v2.toNatClampNeg))), (0, vR (7, q0, 0)), (1, vR (10, q1, i1))]) C 3 dX6_joinWhoIsThere_65 rfl ex2.symm (by decide) rfl ?_
        refine r_goto C 2 dX6_joinWhoIsThere_68 (by decide) ?_
        refine r_drop (ls2 := [(0, vR (7, q0, 0)), (1, vR (10, q1, i1)), (2, vI x2)]) [2, 3, 0] rfl ?_
        exact ih _ _ hF
      · have hF := if_f h7 hF
        refine r_aload_n C 0 3 dX6_joinWhoIsThere_22 rfl rfl ?_
        refine r_getI (kf := 3) C dX6_joinWhoIsThere_23 rfl rfl f_X0 (by decide) t_1_132 rfl ?_
        refine r_if_ne C 65 dX6_joinWhoIsThere_26 (by decide)  (fun h6 => ?_) (fun h6 => ?_)
        · have hF := if_f h6 hF
          obtain ⟨x3, ex3, hF⟩ := nam_e hF
          refine r_iinc (v := x3) (ls2 := [(2, vI x3), (3, vR (10, q0, (v2.toNatClampNeg))), (0, vR (7, q0, 0)), (1, vR (10, q1, i1))]) C 3 dX6_joinWhoIsThere_65 rfl ex3.symm (by decide) rfl ?_
          refine r_goto C 2 dX6_joinWhoIsThere_68 (by decide) ?_
          refine r_drop (ls2 := [(0, vR (7, q0, 0)), (1, vR (10, q1, i1)), (2, vI x3)]) [2, 3, 0] rfl ?_
          exact ih _ _ hF
        · have hF := if_t h6 hF
          refine r_aload_n C 0 3 dX6_joinWhoIsThere_29 rfl rfl ?_
          refine r_getI (kf := 0) C dX6_joinWhoIsThere_30 rfl rfl f_X0 (by decide) t_1_121 rfl ?_
          refine r_aload_n C 2 1 dX6_joinWhoIsThere_33 rfl rfl ?_
          refine r_getI (kf := 0) C dX6_joinWhoIsThere_34 rfl rfl f_X0 (by decide) t_1_121 rfl ?_
          refine r_icmp_ne C 65 dX6_joinWhoIsThere_37 (by decide)  (fun h5 => ?_) (fun h5 => ?_)
          · have hF := if_f h5 hF
            obtain ⟨x4, ex4, hF⟩ := nam_e hF
            refine r_iinc (v := x4) (ls2 := [(2, vI x4), (3, vR (10, q0, (v2.toNatClampNeg))), (0, vR (7, q0, 0)), (1, vR (10, q1, i1))]) C 3 dX6_joinWhoIsThere_65 rfl ex4.symm (by decide) rfl ?_
            refine r_goto C 2 dX6_joinWhoIsThere_68 (by decide) ?_
            refine r_drop (ls2 := [(0, vR (7, q0, 0)), (1, vR (10, q1, i1)), (2, vI x4)]) [2, 3, 0] rfl ?_
            exact ih _ _ hF
          · have hF := if_t h5 hF
            refine r_drop (ls2 := [(0, vR (7, q0, 0)), (1, vR (10, q1, i1)), (2, vI v2), (3, vR (10, q0, (v2.toNatClampNeg)))]) [1, 2, 3, 0] rfl ?_
            exact hkx40 _ _ _ _ hF
set_option maxRecDepth 20000 in
set_option maxHeartbeats 4000000 in
theorem s_X6_joinWhoIsThere (G : Gx) (l : Launch) {q0 : Nat} {q1 : Nat} {i1 : Nat} {σ σ' : St}  (hF : F_X6_joinWhoIsThere q0 q1 i1 σ = some ((), σ')) : Sp G l yX6_joinWhoIsThere cX6_joinWhoIsThere 4 none (lvl 1) [vR (7, q0, 0), vR (10, q1, i1)] σ (va_Qv (fun b => b = σ') (Wd G) (AG G)) := by
  refine Sp_of (own := RX6) (by decide) rfl (Nat.le_of_ble_eq_true rfl) ?_
  intro p e s m args below meth c C
  show Rt G p l e (lvl 1) s m args below meth c 0 0 (MQ below (va_Qv (fun b => b = σ') (Wd G) (AG G)) args s 0 0 (AG G)) 4 0 [(0, vR (7, q0, 0)), (1, vR (10, q1, i1))] [] σ
  unfold F_X6_joinWhoIsThere at hF
  refine r_iconst (v := (0 : Int32)) C dX6_joinWhoIsThere_0 rfl ?_
  refine r_istore_n (ls2 := [(2, vI (0 : Int32)), (0, vR (7, q0, 0)), (1, vR (10, q1, i1))]) C dX6_joinWhoIsThere_1 2 rfl (by decide) rfl ?_
  refine r_drop (ls2 := [(0, vR (7, q0, 0)), (1, vR (10, q1, i1)), (2, vI (0 : Int32))]) [1, 2, 0] rfl ?_
  refine l_X6_joinWhoIsThere_2 C q0 q1 i1 _ ?_ _ _ _ hF
  · intro y10 y11q y11i σ9 hF
    refine r_aload_n C 3 3 dX6_joinWhoIsThere_40 rfl rfl ?_
    refine r_dup_r C dX6_joinWhoIsThere_41 ?_
    refine r_getI (kf := 1) C dX6_joinWhoIsThere_42 rfl rfl f_X0 (by decide) t_1_124 rfl ?_
    refine r_aload_n C 1 1 dX6_joinWhoIsThere_45 rfl rfl ?_
    refine r_getI (kf := 1) C dX6_joinWhoIsThere_46 rfl rfl f_X0 (by decide) t_1_124 rfl ?_
    refine r_iadd C dX6_joinWhoIsThere_49 ?_
    obtain ⟨σ12, eσ12, hF⟩ := nam_e hF
    refine r_put (kf := 1) (ty0 := tyX0) C dX6_joinWhoIsThere_50 rfl rfl f_X0 tyX0_ok nmX0 (by decide) t_1_124 rfl rfl rfl rfl eσ12 ?_
    refine r_aload_n C 1 1 dX6_joinWhoIsThere_53 rfl rfl ?_
    refine r_iload_n C 2 2 dX6_joinWhoIsThere_54 rfl rfl ?_
    obtain ⟨σ13, eσ13, hF⟩ := nam_e hF
    refine r_put (kf := 5) (ty0 := tyX0) C dX6_joinWhoIsThere_55 rfl rfl f_X0 tyX0_ok nmX0 (by decide) t_1_139 rfl rfl rfl rfl eσ13 ?_
    refine r_aload_n C 0 0 dX6_joinWhoIsThere_58 rfl rfl ?_
    refine r_aload_n C 1 1 dX6_joinWhoIsThere_59 rfl rfl ?_
    refine r_iconst (v := (4 : Int32)) C dX6_joinWhoIsThere_60 rfl ?_
    obtain ⟨⟨⟩, σ14, e15, hF⟩ := bd_e hF
    refine r_callV_v (as := [vR (10, q1, i1), vI (4 : Int32)]) (st := []) C dX6_joinWhoIsThere_61 (s_X6_leave G l e15) rfl rfl rfl t_3_194 t_3_196 t_s_12 t_1_5 t_3_197 m_X6_leave ⟨Nat.le_of_ble_eq_true rfl, Nat.le_of_ble_eq_true rfl⟩ ⟨rfl, rfl⟩ ⟨Nat.zero_le _, Nat.zero_le _⟩ rfl (Nat.le_of_ble_eq_true rfl) ?_
    exact r_return C dX6_joinWhoIsThere_64 (rv_e hF)
def F_X5_hasChimney (q0 : Nat) (a1 : Int32) (σ : St) : Option (Int32 × St) :=
  ck (inb (5 : Int32) 9) ((if a1 < (σ.1 (4, q0, 0) 5) then some ((0 : Int32), σ) else some ((1 : Int32), σ)))
set_option maxRecDepth 20000 in
set_option maxHeartbeats 4000000 in
theorem s_X5_hasChimney (G : Gx) (l : Launch) {q0 : Nat} {a1 : Int32} {σ σ' : St} {r : Int32} (hF : F_X5_hasChimney q0 a1 σ = some (r, σ')) : Sp G l yX5_hasChimney cX5_hasChimney 2 (some .boolean) (lvl 0) [vR (3, q0, 0), vI a1] σ (va_Qi (fun a b => a = r ∧ b = σ') (Wd G) (AG G)) := by
  refine Sp_of (own := RX5) (by decide) rfl (Nat.le_of_ble_eq_true rfl) ?_
  intro p e s m args below meth c C
  show Rt G p l e (lvl 0) s m args below meth c 0 0 (MQ below (va_Qi (fun a b => a = r ∧ b = σ') (Wd G) (AG G)) args s 0 0 (AG G)) 2 0 [(0, vR (3, q0, 0)), (1, vI a1)] [] σ
  unfold F_X5_hasChimney at hF
  refine r_iload_n C 1 1 dX5_hasChimney_0 rfl rfl ?_
  refine r_aload_n C 0 0 dX5_hasChimney_1 rfl rfl ?_
  refine r_getR (kf := 0) (d2 := (4, q0, 0)) C dX5_hasChimney_2 rfl rfl f_X5 (by decide) t_1_50 rfl rfl ?_
  refine r_iconst (v := (5 : Int32)) C dX5_hasChimney_5 rfl ?_
  obtain ⟨h1, hF⟩ := ck_e hF
  refine r_iaload C 5 dX5_hasChimney_6 rfl h1 rfl ?_
  refine r_icmp_lt C 14 dX5_hasChimney_7 (by decide)  (fun h2 => ?_) (fun h2 => ?_)
  · have hF := if_t h2 hF
    refine r_iconst (v := (0 : Int32)) C dX5_hasChimney_14 rfl ?_
    exact r_zreturn C dX5_hasChimney_15 (nar_z (Or.inl rfl)) (rt_e hF)
  · have hF := if_f h2 hF
    refine r_iconst (v := (1 : Int32)) C dX5_hasChimney_10 rfl ?_
    refine r_goto C 15 dX5_hasChimney_11 (by decide) ?_
    exact r_zreturn C dX5_hasChimney_15 (nar_z (Or.inr rfl)) (rt_e hF)
def F_X5_lossFloating (q0 : Nat) (a1 : Int32) (σ : St) : Option (Int32 × St) :=
  bd (F_X5_hasChimney q0 a1 σ) fun r2 σ1 => (if r2 = 0 then some ((1 : Int32), σ1) else some ((2 : Int32), σ1))
set_option maxRecDepth 20000 in
set_option maxHeartbeats 4000000 in
theorem s_X5_lossFloating (G : Gx) (l : Launch) {q0 : Nat} {a1 : Int32} {σ σ' : St} {r : Int32} (hF : F_X5_lossFloating q0 a1 σ = some (r, σ')) : Sp G l yX5_lossFloating cX5_lossFloating 2 (some .int) (lvl 1) [vR (3, q0, 0), vI a1] σ (va_Qi (fun a b => a = r ∧ b = σ') (Wd G) (AG G)) := by
  refine Sp_of (own := RX5) (by decide) rfl (Nat.le_of_ble_eq_true rfl) ?_
  intro p e s m args below meth c C
  show Rt G p l e (lvl 1) s m args below meth c 0 0 (MQ below (va_Qi (fun a b => a = r ∧ b = σ') (Wd G) (AG G)) args s 0 0 (AG G)) 2 0 [(0, vR (3, q0, 0)), (1, vI a1)] [] σ
  unfold F_X5_lossFloating at hF
  refine r_aload_n C 0 0 dX5_lossFloating_0 rfl rfl ?_
  refine r_iload_n C 1 1 dX5_lossFloating_1 rfl rfl ?_
  obtain ⟨r2, σ1, e3, hF⟩ := bd_e hF
  refine r_callV_i (as := [vI a1]) (st := []) C dX5_lossFloating_2 (s_X5_hasChimney G l e3) rfl rfl rfl t_3_210 t_3_211 t_3_212 t_1_3 t_3_213 m_X5_hasChimney ⟨Nat.le_of_ble_eq_true rfl, Nat.le_of_ble_eq_true rfl⟩ ⟨rfl, rfl⟩ ⟨Nat.zero_le _, Nat.zero_le _⟩ rfl (Nat.le_of_ble_eq_true rfl) ?_
  refine r_if_eq C 12 dX5_lossFloating_5 (by decide)  (fun h4 => ?_) (fun h4 => ?_)
  · have hF := if_t h4 hF
    refine r_iconst (v := (1 : Int32)) C dX5_lossFloating_12 rfl ?_
    exact r_ireturn C dX5_lossFloating_13 (rt_e hF)
  · have hF := if_f h4 hF
    refine r_iconst (v := (2 : Int32)) C dX5_lossFloating_8 rfl ?_
    refine r_goto C 13 dX5_lossFloating_9 (by decide) ?_
    exact r_ireturn C dX5_lossFloating_13 (rt_e hF)
def F_X6_loseSteam (q0 : Nat) (q1 : Nat) (i1 : Nat) (a2 : Int32) (σ : St) : Option (Unit × St) :=
  nam (if (σ.1 (10, q1, i1) 1) < a2 then (σ.1 (10, q1, i1) 1) else a2) fun x1 => nam (uI σ (10, q1, i1) 1 ((σ.1 (10, q1, i1) 1) - x1)) fun σ2 => nam (uI σ2 (7, q0, 0) 7 ((σ2.1 (7, q0, 0) 7) + x1)) fun σ3 => (if (σ3.1 (10, q1, i1) 1) = 0 then bd (F_X6_leave q0 q1 i1 (1 : Int32) σ3) fun _ σ4 => some ((), σ4) else some ((), σ3))
set_option maxRecDepth 20000 in
set_option maxHeartbeats 4000000 in
theorem s_X6_loseSteam (G : Gx) (l : Launch) {q0 : Nat} {q1 : Nat} {i1 : Nat} {a2 : Int32} {σ σ' : St}  (hF : F_X6_loseSteam q0 q1 i1 a2 σ = some ((), σ')) : Sp G l yX6_loseSteam cX6_loseSteam 4 none (lvl 1) [vR (7, q0, 0), vR (10, q1, i1), vI a2] σ (va_Qv (fun b => b = σ') (Wd G) (AG G)) := by
  refine Sp_of (own := RX6) (by decide) rfl (Nat.le_of_ble_eq_true rfl) ?_
  intro p e s m args below meth c C
  show Rt G p l e (lvl 1) s m args below meth c 0 0 (MQ below (va_Qv (fun b => b = σ') (Wd G) (AG G)) args s 0 0 (AG G)) 4 0 [(0, vR (7, q0, 0)), (1, vR (10, q1, i1)), (2, vI a2)] [] σ
  unfold F_X6_loseSteam at hF
  refine r_iload_n C 2 2 dX6_loseSteam_0 rfl rfl ?_
  refine r_aload_n C 1 1 dX6_loseSteam_1 rfl rfl ?_
  refine r_getI (kf := 1) C dX6_loseSteam_2 rfl rfl f_X0 (by decide) t_1_124 rfl ?_
  refine r_min C dX6_loseSteam_5 t_3_99 t_2_157 t_1_15 t_2_158 ⟨Nat.le_of_ble_eq_true rfl, Nat.le_of_ble_eq_true rfl⟩ ⟨Nat.zero_le _, Nat.zero_le _⟩ ?_
  obtain ⟨x1, ex1, hF⟩ := nam_e hF
  refine r_topI ex1 ?_
  refine r_istore_n (ls2 := [(3, vI x1), (0, vR (7, q0, 0)), (1, vR (10, q1, i1)), (2, vI a2)]) C dX6_loseSteam_8 3 rfl (by decide) rfl ?_
  refine r_aload_n C 2 1 dX6_loseSteam_9 rfl rfl ?_
  refine r_dup_r C dX6_loseSteam_10 ?_
  refine r_getI (kf := 1) C dX6_loseSteam_11 rfl rfl f_X0 (by decide) t_1_124 rfl ?_
  refine r_iload_n C 0 3 dX6_loseSteam_14 rfl rfl ?_
  refine r_isub C dX6_loseSteam_15 ?_
  obtain ⟨σ2, eσ2, hF⟩ := nam_e hF
  refine r_put (kf := 1) (ty0 := tyX0) C dX6_loseSteam_16 rfl rfl f_X0 tyX0_ok nmX0 (by decide) t_1_124 rfl rfl rfl rfl eσ2 ?_
  refine r_aload_n C 1 0 dX6_loseSteam_19 rfl rfl ?_
  refine r_dup_r C dX6_loseSteam_20 ?_
  refine r_getI (kf := 7) C dX6_loseSteam_21 rfl rfl f_X6 (by decide) t_1_169 rfl ?_
  refine r_iload_n C 0 3 dX6_loseSteam_24 rfl rfl ?_
  refine r_iadd C dX6_loseSteam_25 ?_
  obtain ⟨σ3, eσ3, hF⟩ := nam_e hF
  refine r_put (kf := 7) (ty0 := tyX6) C dX6_loseSteam_26 rfl rfl f_X6 tyX6_ok nmX6 (by decide) t_1_169 rfl rfl rfl rfl eσ3 ?_
  refine r_aload_n C 2 1 dX6_loseSteam_29 rfl rfl ?_
  refine r_getI (kf := 1) C dX6_loseSteam_30 rfl rfl f_X0 (by decide) t_1_124 rfl ?_
  refine r_if_ne C 42 dX6_loseSteam_33 (by decide)  (fun h6 => ?_) (fun h6 => ?_)
  · have hF := if_f h6 hF
    exact r_return C dX6_loseSteam_42 (rv_e hF)
  · have hF := if_t h6 hF
    refine r_aload_n C 1 0 dX6_loseSteam_36 rfl rfl ?_
    refine r_aload_n C 2 1 dX6_loseSteam_37 rfl rfl ?_
    refine r_iconst (v := (1 : Int32)) C dX6_loseSteam_38 rfl ?_
    obtain ⟨⟨⟩, σ4, e5, hF⟩ := bd_e hF
    refine r_callV_v (as := [vR (10, q1, i1), vI (1 : Int32)]) (st := []) C dX6_loseSteam_39 (s_X6_leave G l e5) rfl rfl rfl t_3_194 t_3_196 t_s_12 t_1_5 t_3_197 m_X6_leave ⟨Nat.le_of_ble_eq_true rfl, Nat.le_of_ble_eq_true rfl⟩ ⟨rfl, rfl⟩ ⟨Nat.zero_le _, Nat.zero_le _⟩ rfl (Nat.le_of_ble_eq_true rfl) ?_
    exact r_return C dX6_loseSteam_42 (rv_e hF)
def F_X6_floatOn (q0 : Nat) (q1 : Nat) (i1 : Nat) (q2 : Nat) (a3 : Int32) (σ : St) : Option (Unit × St) :=
  bd (F_X5_losesFloatingAt q2 (σ.1 (7, q0, 0) 4) σ) fun r2 σ1 => nam (fun  (σ5 : St) => (if (σ5.1 (10, q1, i1) 3) = 0 then bd (F_X5_value q2 (4 : Int32) σ5) fun r7 σ6 => (if r7 < (σ5.1 (10, q1, i1) 1) then bd (F_X6_wayOf q0 q1 i1 q2 a3 σ6) fun r10 σ9 => bd (F_X6_stepOn q0 q1 i1 r10 σ9) fun _ σ12 => bd (F_X6_kindAt q0 (σ12.1 (10, q1, i1) 0) σ12) fun r15 σ14 => (if r15 = (6 : Int32) then nam (uI σ14 (7, q0, 0) 8 ((σ14.1 (7, q0, 0) 8) + (σ14.1 (10, q1, i1) 1))) fun σ19 => bd (F_X6_leave q0 q1 i1 (2 : Int32) σ19) fun _ σ20 => some ((), σ20) else bd (F_X6_joinWhoIsThere q0 q1 i1 σ14) fun _ σ17 => some ((), σ17)) else nam (uI σ6 (7, q0, 0) 9 ((σ6.1 (7, q0, 0) 9) + (σ6.1 (10, q1, i1) 1))) fun σ23 => bd (F_X6_leave q0 q1 i1 (3 : Int32) σ23) fun _ σ24 => some ((), σ24)) else some ((), σ5))) fun k4 => (if r2 = 0 then k4  σ1 else bd (F_X5_lossFloating q2 (σ1.1 (10, q1, i1) 1) σ1) fun r29 σ28 => bd (F_X6_loseSteam q0 q1 i1 r29 σ28) fun _ σ31 => k4  σ31)
set_option maxRecDepth 20000 in
set_option maxHeartbeats 4000000 in
theorem s_X6_floatOn (G : Gx) (l : Launch) {q0 : Nat} {q1 : Nat} {i1 : Nat} {q2 : Nat} {a3 : Int32} {σ σ' : St}  (hF : F_X6_floatOn q0 q1 i1 q2 a3 σ = some ((), σ')) : Sp G l yX6_floatOn cX6_floatOn 4 none (lvl 2) [vR (7, q0, 0), vR (10, q1, i1), vR (3, q2, 0), vI a3] σ (va_Qv (fun b => b = σ') (Wd G) (AG G)) := by
  refine Sp_of (own := RX6) (by decide) rfl (Nat.le_of_ble_eq_true rfl) ?_
  intro p e s m args below meth c C
  show Rt G p l e (lvl 2) s m args below meth c 0 0 (MQ below (va_Qv (fun b => b = σ') (Wd G) (AG G)) args s 0 0 (AG G)) 4 0 [(0, vR (7, q0, 0)), (1, vR (10, q1, i1)), (2, vR (3, q2, 0)), (3, vI a3)] [] σ
  unfold F_X6_floatOn at hF
  refine r_aload_n C 2 2 dX6_floatOn_0 rfl rfl ?_
  refine r_aload_n C 0 0 dX6_floatOn_1 rfl rfl ?_
  refine r_getI (kf := 4) C dX6_floatOn_2 rfl rfl f_X6 (by decide) t_1_163 rfl ?_
  obtain ⟨r2, σ1, e3, hF⟩ := bd_e hF
  refine r_callV_i (as := [vI (σ.1 (7, q0, 0) 4)]) (st := []) C dX6_floatOn_5 (s_X5_losesFloatingAt G l e3) rfl rfl rfl t_3_202 t_3_203 t_3_204 t_1_3 t_3_205 m_X5_losesFloatingAt ⟨Nat.le_of_ble_eq_true rfl, Nat.le_of_ble_eq_true rfl⟩ ⟨rfl, rfl⟩ ⟨Nat.zero_le _, Nat.zero_le _⟩ rfl (Nat.le_of_ble_eq_true rfl) ?_
  obtain ⟨k4, ek4, hF⟩ := nam_e hF
  have hk4 : ∀  (σ5 : St), k4  σ5 = some ((), σ') → Rt G p l e (lvl 2) s m args below meth c 0 0 (MQ below (va_Qv (fun b => b = σ') (Wd G) (AG G)) args s 0 0 (AG G)) 4 24 [(0, vR (7, q0, 0)), (1, vR (10, q1, i1)), (2, vR (3, q2, 0)), (3, vI a3)] [] σ5 := by
    intro  σ5 hF
    subst ek4
    refine r_aload_n C 1 1 dX6_floatOn_24 rfl rfl ?_
    refine r_getI (kf := 3) C dX6_floatOn_25 rfl rfl f_X0 (by decide) t_1_132 rfl ?_
    refine r_if_eq C 32 dX6_floatOn_28 (by decide)  (fun h27 => ?_) (fun h27 => ?_)
    · have hF := if_t h27 hF
      refine r_aload_n C 1 1 dX6_floatOn_32 rfl rfl ?_
      refine r_getI (kf := 1) C dX6_floatOn_33 rfl rfl f_X0 (by decide) t_1_124 rfl ?_
      refine r_aload_n C 2 2 dX6_floatOn_36 rfl rfl ?_
      refine r_iconst (v := (4 : Int32)) C dX6_floatOn_37 rfl ?_
      obtain ⟨r7, σ6, e8, hF⟩ := bd_e hF
      refine r_callV_i (as := [vI (4 : Int32)]) (st := [vI (σ5.1 (10, q1, i1) 1)]) C dX6_floatOn_38 (s_X5_value G l e8) rfl rfl rfl t_3_214 t_3_88 t_3_89 t_1_3 t_3_90 m_X5_value ⟨Nat.le_of_ble_eq_true rfl, Nat.le_of_ble_eq_true rfl⟩ ⟨rfl, rfl⟩ ⟨Nat.zero_le _, Nat.zero_le _⟩ rfl (Nat.le_of_ble_eq_true rfl) ?_
      refine r_icmp_gt C 64 dX6_floatOn_41 (by decide)  (fun h26 => ?_) (fun h26 => ?_)
      · have hF := if_t h26 hF
        refine r_aload_n C 0 0 dX6_floatOn_64 rfl rfl ?_
        refine r_aload_n C 1 1 dX6_floatOn_65 rfl rfl ?_
        refine r_aload_n C 0 0 dX6_floatOn_66 rfl rfl ?_
        refine r_aload_n C 1 1 dX6_floatOn_67 rfl rfl ?_
        refine r_aload_n C 2 2 dX6_floatOn_68 rfl rfl ?_
        refine r_iload_n C 3 3 dX6_floatOn_69 rfl rfl ?_
        obtain ⟨r10, σ9, e11, hF⟩ := bd_e hF
        refine r_callV_i (as := [vR (10, q1, i1), vR (3, q2, 0), vI a3]) (st := [vR (10, q1, i1), vR (7, q0, 0)]) C dX6_floatOn_70 (s_X6_wayOf G l e11) rfl rfl rfl t_3_215 t_3_216 t_3_217 t_1_5 t_3_218 m_X6_wayOf ⟨Nat.le_of_ble_eq_true rfl, Nat.le_of_ble_eq_true rfl⟩ ⟨rfl, rfl⟩ ⟨Nat.zero_le _, Nat.zero_le _⟩ rfl (Nat.le_of_ble_eq_true rfl) ?_
        obtain ⟨⟨⟩, σ12, e13, hF⟩ := bd_e hF
        refine r_callV_v (as := [vR (10, q1, i1), vI r10]) (st := []) C dX6_floatOn_73 (s_X6_stepOn G l e13) rfl rfl rfl t_3_228 t_3_229 t_3_230 t_1_5 t_3_231 m_X6_stepOn ⟨Nat.le_of_ble_eq_true rfl, Nat.le_of_ble_eq_true rfl⟩ ⟨rfl, rfl⟩ ⟨Nat.zero_le _, Nat.zero_le _⟩ rfl (Nat.le_of_ble_eq_true rfl) ?_
        refine r_aload_n C 0 0 dX6_floatOn_76 rfl rfl ?_
        refine r_aload_n C 1 1 dX6_floatOn_77 rfl rfl ?_
        refine r_getI (kf := 0) C dX6_floatOn_78 rfl rfl f_X0 (by decide) t_1_121 rfl ?_
        obtain ⟨r15, σ14, e16, hF⟩ := bd_e hF
        refine r_callV_i (as := [vI (σ12.1 (10, q1, i1) 0)]) (st := []) C dX6_floatOn_81 (s_X6_kindAt G l e16) rfl rfl rfl t_3_165 t_3_122 t_3_123 t_1_5 t_3_124 m_X6_kindAt ⟨Nat.le_of_ble_eq_true rfl, Nat.le_of_ble_eq_true rfl⟩ ⟨rfl, rfl⟩ ⟨Nat.zero_le _, Nat.zero_le _⟩ rfl (Nat.le_of_ble_eq_true rfl) ?_
        refine r_bipush (v := (6 : Int32)) C dX6_floatOn_84 rfl ?_
        refine r_icmp_ne C 111 dX6_floatOn_86 (by decide)  (fun h22 => ?_) (fun h22 => ?_)
        · have hF := if_f h22 hF
          refine r_aload_n C 0 0 dX6_floatOn_111 rfl rfl ?_
          refine r_aload_n C 1 1 dX6_floatOn_112 rfl rfl ?_
          obtain ⟨⟨⟩, σ17, e18, hF⟩ := bd_e hF
          refine r_callV_v (as := [vR (10, q1, i1)]) (st := []) C dX6_floatOn_113 (s_X6_joinWhoIsThere G l e18) rfl rfl rfl t_3_235 t_3_237 t_s_15 t_1_5 t_3_238 m_X6_joinWhoIsThere ⟨Nat.le_of_ble_eq_true rfl, Nat.le_of_ble_eq_true rfl⟩ ⟨rfl, rfl⟩ ⟨Nat.zero_le _, Nat.zero_le _⟩ rfl (Nat.le_of_ble_eq_true rfl) ?_
          exact r_return C dX6_floatOn_116 (rv_e hF)
        · have hF := if_t h22 hF
          refine r_aload_n C 0 0 dX6_floatOn_89 rfl rfl ?_
          refine r_dup_r C dX6_floatOn_90 ?_
          refine r_getI (kf := 8) C dX6_floatOn_91 rfl rfl f_X6 (by decide) t_1_171 rfl ?_
          refine r_aload_n C 1 1 dX6_floatOn_94 rfl rfl ?_
          refine r_getI (kf := 1) C dX6_floatOn_95 rfl rfl f_X0 (by decide) t_1_124 rfl ?_
          refine r_iadd C dX6_floatOn_98 ?_
          obtain ⟨σ19, eσ19, hF⟩ := nam_e hF
          refine r_put (kf := 8) (ty0 := tyX6) C dX6_floatOn_99 rfl rfl f_X6 tyX6_ok nmX6 (by decide) t_1_171 rfl rfl rfl rfl eσ19 ?_
          refine r_aload_n C 0 0 dX6_floatOn_102 rfl rfl ?_
          refine r_aload_n C 1 1 dX6_floatOn_103 rfl rfl ?_
          refine r_iconst (v := (2 : Int32)) C dX6_floatOn_104 rfl ?_
          obtain ⟨⟨⟩, σ20, e21, hF⟩ := bd_e hF
          refine r_callV_v (as := [vR (10, q1, i1), vI (2 : Int32)]) (st := []) C dX6_floatOn_105 (s_X6_leave G l e21) rfl rfl rfl t_3_194 t_3_196 t_s_12 t_1_5 t_3_197 m_X6_leave ⟨Nat.le_of_ble_eq_true rfl, Nat.le_of_ble_eq_true rfl⟩ ⟨rfl, rfl⟩ ⟨Nat.zero_le _, Nat.zero_le _⟩ rfl (Nat.le_of_ble_eq_true rfl) ?_
          refine r_goto C 116 dX6_floatOn_108 (by decide) ?_
          exact r_return C dX6_floatOn_116 (rv_e hF)
      · have hF := if_f h26 hF
        refine r_aload_n C 0 0 dX6_floatOn_44 rfl rfl ?_
        refine r_dup_r C dX6_floatOn_45 ?_
        refine r_getI (kf := 9) C dX6_floatOn_46 rfl rfl f_X6 (by decide) t_1_173 rfl ?_
        refine r_aload_n C 1 1 dX6_floatOn_49 rfl rfl ?_
        refine r_getI (kf := 1) C dX6_floatOn_50 rfl rfl f_X0 (by decide) t_1_124 rfl ?_
        refine r_iadd C dX6_floatOn_53 ?_
        obtain ⟨σ23, eσ23, hF⟩ := nam_e hF
        refine r_put (kf := 9) (ty0 := tyX6) C dX6_floatOn_54 rfl rfl f_X6 tyX6_ok nmX6 (by decide) t_1_173 rfl rfl rfl rfl eσ23 ?_
        refine r_aload_n C 0 0 dX6_floatOn_57 rfl rfl ?_
        refine r_aload_n C 1 1 dX6_floatOn_58 rfl rfl ?_
        refine r_iconst (v := (3 : Int32)) C dX6_floatOn_59 rfl ?_
        obtain ⟨⟨⟩, σ24, e25, hF⟩ := bd_e hF
        refine r_callV_v (as := [vR (10, q1, i1), vI (3 : Int32)]) (st := []) C dX6_floatOn_60 (s_X6_leave G l e25) rfl rfl rfl t_3_194 t_3_196 t_s_12 t_1_5 t_3_197 m_X6_leave ⟨Nat.le_of_ble_eq_true rfl, Nat.le_of_ble_eq_true rfl⟩ ⟨rfl, rfl⟩ ⟨Nat.zero_le _, Nat.zero_le _⟩ rfl (Nat.le_of_ble_eq_true rfl) ?_
        exact r_return C dX6_floatOn_63 (rv_e hF)
    · have hF := if_f h27 hF
      exact r_return C dX6_floatOn_31 (rv_e hF)
  refine r_if_eq C 24 dX6_floatOn_8 (by decide)  (fun h33 => ?_) (fun h33 => ?_)
  · have hF := if_t h33 hF
    exact hk4 _ hF
  · have hF := if_f h33 hF
    refine r_aload_n C 0 0 dX6_floatOn_11 rfl rfl ?_
    refine r_aload_n C 1 1 dX6_floatOn_12 rfl rfl ?_
    refine r_aload_n C 2 2 dX6_floatOn_13 rfl rfl ?_
    refine r_aload_n C 1 1 dX6_floatOn_14 rfl rfl ?_
    refine r_getI (kf := 1) C dX6_floatOn_15 rfl rfl f_X0 (by decide) t_1_124 rfl ?_
    obtain ⟨r29, σ28, e30, hF⟩ := bd_e hF
    refine r_callV_i (as := [vI (σ1.1 (10, q1, i1) 1)]) (st := [vR (10, q1, i1), vR (7, q0, 0)]) C dX6_floatOn_18 (s_X5_lossFloating G l e30) rfl rfl rfl t_3_206 t_3_207 t_3_208 t_1_3 t_3_209 m_X5_lossFloating ⟨Nat.le_of_ble_eq_true rfl, Nat.le_of_ble_eq_true rfl⟩ ⟨rfl, rfl⟩ ⟨Nat.zero_le _, Nat.zero_le _⟩ rfl (Nat.le_of_ble_eq_true rfl) ?_
    obtain ⟨⟨⟩, σ31, e32, hF⟩ := bd_e hF
    refine r_callV_v (as := [vR (10, q1, i1), vI r29]) (st := []) C dX6_floatOn_21 (s_X6_loseSteam G l e32) rfl rfl rfl t_3_190 t_3_192 t_s_11 t_1_5 t_3_193 m_X6_loseSteam ⟨Nat.le_of_ble_eq_true rfl, Nat.le_of_ble_eq_true rfl⟩ ⟨rfl, rfl⟩ ⟨Nat.zero_le _, Nat.zero_le _⟩ rfl (Nat.le_of_ble_eq_true rfl) ?_
    exact hk4 _ hF
def F_X5_lossTouching (q0 : Nat) (a1 : Int32) (σ : St) : Option (Int32 × St) :=
  ck (inb (6 : Int32) 9) (nam (σ.1 (4, q0, 0) 6) fun x2 => (if x2 ≤ 0 then some ((1 : Int32), σ) else ck (decide (¬ x2 = 0)) (some ((1 : Int32) + (a1 / x2), σ))))
set_option maxRecDepth 20000 in
set_option maxHeartbeats 4000000 in
theorem s_X5_lossTouching (G : Gx) (l : Launch) {q0 : Nat} {a1 : Int32} {σ σ' : St} {r : Int32} (hF : F_X5_lossTouching q0 a1 σ = some (r, σ')) : Sp G l yX5_lossTouching cX5_lossTouching 3 (some .int) (lvl 0) [vR (3, q0, 0), vI a1] σ (va_Qi (fun a b => a = r ∧ b = σ') (Wd G) (AG G)) := by
  refine Sp_of (own := RX5) (by decide) rfl (Nat.le_of_ble_eq_true rfl) ?_
  intro p e s m args below meth c C
  show Rt G p l e (lvl 0) s m args below meth c 0 0 (MQ below (va_Qi (fun a b => a = r ∧ b = σ') (Wd G) (AG G)) args s 0 0 (AG G)) 3 0 [(0, vR (3, q0, 0)), (1, vI a1)] [] σ
  unfold F_X5_lossTouching at hF
  refine r_aload_n C 0 0 dX5_lossTouching_0 rfl rfl ?_
  refine r_getR (kf := 0) (d2 := (4, q0, 0)) C dX5_lossTouching_1 rfl rfl f_X5 (by decide) t_1_50 rfl rfl ?_
  refine r_bipush (v := (6 : Int32)) C dX5_lossTouching_4 rfl ?_
  obtain ⟨h1, hF⟩ := ck_e hF
  refine r_iaload C 6 dX5_lossTouching_6 rfl h1 rfl ?_
  obtain ⟨x2, ex2, hF⟩ := nam_e hF
  refine r_topI ex2 ?_
  refine r_istore_n (ls2 := [(2, vI x2), (0, vR (3, q0, 0)), (1, vI a1)]) C dX5_lossTouching_7 2 rfl (by decide) rfl ?_
  refine r_iload_n C 0 2 dX5_lossTouching_8 rfl rfl ?_
  refine r_if_le C 20 dX5_lossTouching_9 (by decide)  (fun h4 => ?_) (fun h4 => ?_)
  · have hF := if_t h4 hF
    refine r_iconst (v := (1 : Int32)) C dX5_lossTouching_20 rfl ?_
    exact r_ireturn C dX5_lossTouching_21 (rt_e hF)
  · have hF := if_f h4 hF
    refine r_iconst (v := (1 : Int32)) C dX5_lossTouching_12 rfl ?_
    refine r_iload_n C 2 1 dX5_lossTouching_13 rfl rfl ?_
    refine r_iload_n C 0 2 dX5_lossTouching_14 rfl rfl ?_
    obtain ⟨h3, hF⟩ := ck_e hF
    refine r_idiv C dX5_lossTouching_15 (nz h3) ?_
    refine r_iadd C dX5_lossTouching_16 ?_
    refine r_goto C 21 dX5_lossTouching_17 (by decide) ?_
    exact r_ireturn C dX5_lossTouching_21 (rt_e hF)
def L_X6_passTick_2 (q0 : Nat) (q1 : Nat) (c2 : Int32) : Nat → Int32 → St → (St → Option (Unit × St)) → Option (Unit × St)
  | 0, _, _, _ => none
  | n + 1, v3, τ, kx66 =>
  (if (τ.1 (7, q0, 0) 2) ≤ v3 then kx66  τ else ck (inb v3 12) (nam (fun  (σ3 : St) => nam (v3 + (1 : Int32)) fun x4 => L_X6_passTick_2 q0 q1 c2 n x4 σ3 kx66) fun k2 => (if (τ.1 (10, q0, (v3.toNatClampNeg)) 3) = 0 then bd (F_X6_touches q0 q0 (v3.toNatClampNeg) τ) fun r6 σ5 => (if r6 = 0 then bd (F_X6_floatOn q0 q0 (v3.toNatClampNeg) q1 c2 σ5) fun _ σ8 => k2  σ8 else bd (F_X5_lossTouching q1 (σ5.1 (7, q0, 0) 3) σ5) fun r11 σ10 => bd (F_X6_loseSteam q0 q0 (v3.toNatClampNeg) r11 σ10) fun _ σ13 => k2  σ13) else k2  τ)))
def F_X6_passTick (q0 : Nat) (q1 : Nat) (a2 : Int32) (σ : St) : Option (Unit × St) :=
  L_X6_passTick_2 q0 q1 a2 FU (0 : Int32) σ (fun  (σ18 : St) => nam (uI σ18 (7, q0, 0) 4 ((σ18.1 (7, q0, 0) 4) + (1 : Int32))) fun σ19 => some ((), σ19))
set_option maxRecDepth 20000 in
set_option maxHeartbeats 4000000 in
theorem l_X6_passTick_2 {G : Gx} {p : Program} {l : Launch} {e : Env} {s : State} {m : MethodId} {args : Array Value} {below : List Frame} {meth : Method} {c : Code} (C : Cx G p s m args meth c none 5 RX6 cX6_passTick) (q0 : Nat) (q1 : Nat) (c2 : Int32) {σ' : St}  (kx66 : St → Option (Unit × St)) (hkx66 : ∀  (τ : St), kx66  τ = some ((), σ') → Rt G p l e (lvl 3) s m args below meth c 0 0 (MQ below (va_Qv (fun b => b = σ') (Wd G) (AG G)) args s 0 0 (AG G)) 5 66 [(0, vR (7, q0, 0))] [] τ) : ∀ (n : Nat) (v3 : Int32) (τ : St), L_X6_passTick_2 q0 q1 c2 n v3 τ kx66 = some ((), σ') → Rt G p l e (lvl 3) s m args below meth c 0 0 (MQ below (va_Qv (fun b => b = σ') (Wd G) (AG G)) args s 0 0 (AG G)) 5 2 [(0, vR (7, q0, 0)), (1, vR (3, q1, 0)), (2, vI c2), (3, vI v3)] [] τ := by
  intro n
  induction n with
  | zero => intro v3 τ hF; cases hF
  | succ n ih =>
    intro v3 τ hF
    unfold L_X6_passTick_2 at hF
    refine r_iload_n C 3 3 dX6_passTick_2 rfl rfl ?_
    refine r_aload_n C 0 0 dX6_passTick_3 rfl rfl ?_
    refine r_getI (kf := 2) C dX6_passTick_4 rfl rfl f_X6 (by decide) t_1_159 rfl ?_
    refine r_icmp_ge C 66 dX6_passTick_7 (by decide)  (fun h17 => ?_) (fun h17 => ?_)
    · have hF := if_t h17 hF
      refine r_drop (ls2 := [(0, vR (7, q0, 0))]) [0] rfl ?_
      exact hkx66 _ hF
    · have hF := if_f h17 hF
      refine r_aload_n C 0 0 dX6_passTick_10 rfl rfl ?_
      refine r_getR (kf := 1) (d2 := (9, q0, 0)) C dX6_passTick_11 rfl rfl f_X6 (by decide) t_1_156 rfl rfl ?_
      refine r_iload_n C 3 3 dX6_passTick_14 rfl rfl ?_
      obtain ⟨h1, hF⟩ := ck_e hF
      refine r_aaload (cA := 0) (d2 := (10, q0, (v3.toNatClampNeg))) C dX6_passTick_15 rfl rfl h1 rfl ?_
      refine r_astore (ls2 := [(4, vR (10, q0, (v3.toNatClampNeg))), (0, vR (7, q0, 0)), (1, vR (3, q1, 0)), (2, vI c2), (3, vI v3)]) C dX6_passTick_16 (by decide) rfl ?_
      refine r_aload C 0 dX6_passTick_18 rfl ?_
      refine r_getI (kf := 3) C dX6_passTick_20 rfl rfl f_X0 (by decide) t_1_132 rfl ?_
      obtain ⟨k2, ek2, hF⟩ := nam_e hF
      have hk2 : ∀  (σ3 : St), k2  σ3 = some ((), σ') → Rt G p l e (lvl 3) s m args below meth c 0 0 (MQ below (va_Qv (fun b => b = σ') (Wd G) (AG G)) args s 0 0 (AG G)) 5 60 [(0, vR (7, q0, 0)), (1, vR (3, q1, 0)), (2, vI c2), (3, vI v3)] [] σ3 := by
        intro  σ3 hF
        subst ek2
        obtain ⟨x4, ex4, hF⟩ := nam_e hF
        refine r_iinc (v := x4) (ls2 := [(3, vI x4), (0, vR (7, q0, 0)), (1, vR (3, q1, 0)), (2, vI c2)]) C 3 dX6_passTick_60 rfl ex4.symm (by decide) rfl ?_
        refine r_goto C 2 dX6_passTick_63 (by decide) ?_
        refine r_drop (ls2 := [(0, vR (7, q0, 0)), (1, vR (3, q1, 0)), (2, vI c2), (3, vI x4)]) [1, 2, 3, 0] rfl ?_
        exact ih _ _ hF
      refine r_if_ne C 60 dX6_passTick_23 (by decide)  (fun h16 => ?_) (fun h16 => ?_)
      · have hF := if_f h16 hF
        refine r_drop (ls2 := [(0, vR (7, q0, 0)), (1, vR (3, q1, 0)), (2, vI c2), (3, vI v3)]) [1, 2, 3, 4] rfl ?_
        exact hk2 _ hF
      · have hF := if_t h16 hF
        refine r_aload_n C 1 0 dX6_passTick_26 rfl rfl ?_
        refine r_aload C 0 dX6_passTick_27 rfl ?_
        obtain ⟨r6, σ5, e7, hF⟩ := bd_e hF
        refine r_callV_i (as := [vR (10, q0, (v3.toNatClampNeg))]) (st := []) C dX6_passTick_29 (s_X6_touches G l e7) rfl rfl rfl t_3_182 t_3_183 t_3_184 t_1_5 t_3_185 m_X6_touches ⟨Nat.le_of_ble_eq_true rfl, Nat.le_of_ble_eq_true rfl⟩ ⟨rfl, rfl⟩ ⟨Nat.zero_le _, Nat.zero_le _⟩ rfl (Nat.le_of_ble_eq_true rfl) ?_
        refine r_if_eq C 52 dX6_passTick_32 (by decide)  (fun h15 => ?_) (fun h15 => ?_)
        · have hF := if_t h15 hF
          refine r_aload_n C 1 0 dX6_passTick_52 rfl rfl ?_
          refine r_aload C 0 dX6_passTick_53 rfl ?_
          refine r_aload_n C 2 1 dX6_passTick_55 rfl rfl ?_
          refine r_iload_n C 3 2 dX6_passTick_56 rfl rfl ?_
          obtain ⟨⟨⟩, σ8, e9, hF⟩ := bd_e hF
          refine r_callV_v (as := [vR (10, q0, (v3.toNatClampNeg)), vR (3, q1, 0), vI c2]) (st := []) C dX6_passTick_57 (s_X6_floatOn G l e9) rfl rfl rfl t_3_198 t_3_200 t_s_13 t_1_5 t_3_201 m_X6_floatOn ⟨Nat.le_of_ble_eq_true rfl, Nat.le_of_ble_eq_true rfl⟩ ⟨rfl, rfl⟩ ⟨Nat.zero_le _, Nat.zero_le _⟩ rfl (Nat.le_of_ble_eq_true rfl) ?_
          refine r_drop (ls2 := [(0, vR (7, q0, 0)), (1, vR (3, q1, 0)), (2, vI c2), (3, vI v3)]) [1, 2, 3, 4] rfl ?_
          exact hk2 _ hF
        · have hF := if_f h15 hF
          refine r_aload_n C 1 0 dX6_passTick_35 rfl rfl ?_
          refine r_aload C 0 dX6_passTick_36 rfl ?_
          refine r_aload_n C 2 1 dX6_passTick_38 rfl rfl ?_
          refine r_aload_n C 1 0 dX6_passTick_39 rfl rfl ?_
          refine r_getI (kf := 3) C dX6_passTick_40 rfl rfl f_X6 (by decide) t_1_161 rfl ?_
          obtain ⟨r11, σ10, e12, hF⟩ := bd_e hF
          refine r_callV_i (as := [vI (σ5.1 (7, q0, 0) 3)]) (st := [vR (10, q0, (v3.toNatClampNeg)), vR (7, q0, 0)]) C dX6_passTick_43 (s_X5_lossTouching G l e12) rfl rfl rfl t_3_186 t_3_187 t_3_188 t_1_3 t_3_189 m_X5_lossTouching ⟨Nat.le_of_ble_eq_true rfl, Nat.le_of_ble_eq_true rfl⟩ ⟨rfl, rfl⟩ ⟨Nat.zero_le _, Nat.zero_le _⟩ rfl (Nat.le_of_ble_eq_true rfl) ?_
          obtain ⟨⟨⟩, σ13, e14, hF⟩ := bd_e hF
          refine r_callV_v (as := [vR (10, q0, (v3.toNatClampNeg)), vI r11]) (st := []) C dX6_passTick_46 (s_X6_loseSteam G l e14) rfl rfl rfl t_3_190 t_3_192 t_s_11 t_1_5 t_3_193 m_X6_loseSteam ⟨Nat.le_of_ble_eq_true rfl, Nat.le_of_ble_eq_true rfl⟩ ⟨rfl, rfl⟩ ⟨Nat.zero_le _, Nat.zero_le _⟩ rfl (Nat.le_of_ble_eq_true rfl) ?_
          refine r_goto C 60 dX6_passTick_49 (by decide) ?_
          refine r_drop (ls2 := [(0, vR (7, q0, 0)), (1, vR (3, q1, 0)), (2, vI c2), (3, vI v3)]) [1, 2, 3, 4] rfl ?_
          exact hk2 _ hF
set_option maxRecDepth 20000 in
set_option maxHeartbeats 4000000 in
theorem s_X6_passTick (G : Gx) (l : Launch) {q0 : Nat} {q1 : Nat} {a2 : Int32} {σ σ' : St}  (hF : F_X6_passTick q0 q1 a2 σ = some ((), σ')) : Sp G l yX6_passTick cX6_passTick 5 none (lvl 3) [vR (7, q0, 0), vR (3, q1, 0), vI a2] σ (va_Qv (fun b => b = σ') (Wd G) (AG G)) := by
  refine Sp_of (own := RX6) (by decide) rfl (Nat.le_of_ble_eq_true rfl) ?_
  intro p e s m args below meth c C
  show Rt G p l e (lvl 3) s m args below meth c 0 0 (MQ below (va_Qv (fun b => b = σ') (Wd G) (AG G)) args s 0 0 (AG G)) 5 0 [(0, vR (7, q0, 0)), (1, vR (3, q1, 0)), (2, vI a2)] [] σ
  unfold F_X6_passTick at hF
  refine r_iconst (v := (0 : Int32)) C dX6_passTick_0 rfl ?_
  refine r_istore_n (ls2 := [(3, vI (0 : Int32)), (0, vR (7, q0, 0)), (1, vR (3, q1, 0)), (2, vI a2)]) C dX6_passTick_1 3 rfl (by decide) rfl ?_
  refine r_drop (ls2 := [(0, vR (7, q0, 0)), (1, vR (3, q1, 0)), (2, vI a2), (3, vI (0 : Int32))]) [1, 2, 3, 0] rfl ?_
  refine l_X6_passTick_2 C q0 q1 a2 _ ?_ _ _ _ hF
  · intro  σ18 hF
    refine r_aload_n C 0 0 dX6_passTick_66 rfl rfl ?_
    refine r_dup_r C dX6_passTick_67 ?_
    refine r_getI (kf := 4) C dX6_passTick_68 rfl rfl f_X6 (by decide) t_1_163 rfl ?_
    refine r_iconst (v := (1 : Int32)) C dX6_passTick_71 rfl ?_
    refine r_iadd C dX6_passTick_72 ?_
    obtain ⟨σ19, eσ19, hF⟩ := nam_e hF
    refine r_put (kf := 4) (ty0 := tyX6) C dX6_passTick_73 rfl rfl f_X6 tyX6_ok nmX6 (by decide) t_1_163 rfl rfl rfl rfl eσ19 ?_
    exact r_return C dX6_passTick_76 (rv_e hF)
def L_X6_howManyThere_4 (q0 : Nat) : Nat → Int32 → Int32 → St → Option (Int32 × St)
  | 0, _, _, _ => none
  | n + 1, v1, v2, τ =>
  (if (τ.1 (7, q0, 0) 2) ≤ v2 then some (v1, τ) else ck (inb v2 12) (nam (fun (y2 : Int32) (σ4 : St) => nam (v1 + y2) fun x5 => nam (v2 + (1 : Int32)) fun x6 => L_X6_howManyThere_4 q0 n x5 x6 σ4) fun k3 => (if (τ.1 (10, q0, (v2.toNatClampNeg)) 3) = 0 then k3 (1 : Int32) τ else k3 (0 : Int32) τ)))
def F_X6_howManyThere (q0 : Nat) (σ : St) : Option (Int32 × St) :=
  L_X6_howManyThere_4 q0 FU (0 : Int32) (0 : Int32) σ 
set_option maxRecDepth 20000 in
set_option maxHeartbeats 4000000 in
theorem l_X6_howManyThere_4 {G : Gx} {p : Program} {l : Launch} {e : Env} {s : State} {m : MethodId} {args : Array Value} {below : List Frame} {meth : Method} {c : Code} (C : Cx G p s m args meth c (some .int) 3 RX6 cX6_howManyThere) (q0 : Nat) {σ' : St} {r : Int32} : ∀ (n : Nat) (v1 : Int32) (v2 : Int32) (τ : St), L_X6_howManyThere_4 q0 n v1 v2 τ = some (r, σ') → Rt G p l e (lvl 0) s m args below meth c 0 0 (MQ below (va_Qi (fun a b => a = r ∧ b = σ') (Wd G) (AG G)) args s 0 0 (AG G)) 3 4 [(0, vR (7, q0, 0)), (1, vI v1), (2, vI v2)] [] τ := by
  intro n
  induction n with
  | zero => intro v1 v2 τ hF; cases hF
  | succ n ih =>
    intro v1 v2 τ hF
    unfold L_X6_howManyThere_4 at hF
    refine r_iload_n C 2 2 dX6_howManyThere_4 rfl rfl ?_
    refine r_aload_n C 0 0 dX6_howManyThere_5 rfl rfl ?_
    refine r_getI (kf := 2) C dX6_howManyThere_6 rfl rfl f_X6 (by decide) t_1_159 rfl ?_
    refine r_icmp_ge C 38 dX6_howManyThere_9 (by decide)  (fun h8 => ?_) (fun h8 => ?_)
    · have hF := if_t h8 hF
      refine r_iload_n C 1 1 dX6_howManyThere_38 rfl rfl ?_
      exact r_ireturn C dX6_howManyThere_39 (rt_e hF)
    · have hF := if_f h8 hF
      refine r_iload_n C 1 1 dX6_howManyThere_12 rfl rfl ?_
      refine r_aload_n C 0 0 dX6_howManyThere_13 rfl rfl ?_
      refine r_getR (kf := 1) (d2 := (9, q0, 0)) C dX6_howManyThere_14 rfl rfl f_X6 (by decide) t_1_156 rfl rfl ?_
      refine r_iload_n C 2 2 dX6_howManyThere_17 rfl rfl ?_
      obtain ⟨h1, hF⟩ := ck_e hF
      refine r_aaload (cA := 0) (d2 := (10, q0, (v2.toNatClampNeg))) C dX6_howManyThere_18 rfl rfl h1 rfl ?_
      refine r_getI (kf := 3) C dX6_howManyThere_19 rfl rfl f_X0 (by decide) t_1_132 rfl ?_
      obtain ⟨k3, ek3, hF⟩ := nam_e hF
      have hk3 : ∀ (y2 : Int32) (σ4 : St), k3 y2 σ4 = some (r, σ') → Rt G p l e (lvl 0) s m args below meth c 0 0 (MQ below (va_Qi (fun a b => a = r ∧ b = σ') (Wd G) (AG G)) args s 0 0 (AG G)) 3 30 [(0, vR (7, q0, 0)), (2, vI v2)] [vI y2, vI v1] σ4 := by
        intro y2 σ4 hF
        subst ek3
        refine r_iadd C dX6_howManyThere_30 ?_
        obtain ⟨x5, ex5, hF⟩ := nam_e hF
        refine r_topI ex5 ?_
        refine r_istore_n (ls2 := [(1, vI x5), (0, vR (7, q0, 0)), (2, vI v2)]) C dX6_howManyThere_31 1 rfl (by decide) rfl ?_
        obtain ⟨x6, ex6, hF⟩ := nam_e hF
        refine r_iinc (v := x6) (ls2 := [(2, vI x6), (1, vI x5), (0, vR (7, q0, 0))]) C 2 dX6_howManyThere_32 rfl ex6.symm (by decide) rfl ?_
        refine r_goto C 4 dX6_howManyThere_35 (by decide) ?_
        refine r_drop (ls2 := [(0, vR (7, q0, 0)), (1, vI x5), (2, vI x6)]) [2, 1, 0] rfl ?_
        exact ih _ _ _ hF
      refine r_if_ne C 29 dX6_howManyThere_22 (by decide)  (fun h7 => ?_) (fun h7 => ?_)
      · have hF := if_f h7 hF
        refine r_iconst (v := (0 : Int32)) C dX6_howManyThere_29 rfl ?_
        refine r_drop (ls2 := [(0, vR (7, q0, 0)), (2, vI v2)]) [0, 2] rfl ?_
        exact hk3 _ _ hF
      · have hF := if_t h7 hF
        refine r_iconst (v := (1 : Int32)) C dX6_howManyThere_25 rfl ?_
        refine r_goto C 30 dX6_howManyThere_26 (by decide) ?_
        refine r_drop (ls2 := [(0, vR (7, q0, 0)), (2, vI v2)]) [0, 2] rfl ?_
        exact hk3 _ _ hF
set_option maxRecDepth 20000 in
set_option maxHeartbeats 4000000 in
theorem s_X6_howManyThere (G : Gx) (l : Launch) {q0 : Nat} {σ σ' : St} {r : Int32} (hF : F_X6_howManyThere q0 σ = some (r, σ')) : Sp G l yX6_howManyThere cX6_howManyThere 3 (some .int) (lvl 0) [vR (7, q0, 0)] σ (va_Qi (fun a b => a = r ∧ b = σ') (Wd G) (AG G)) := by
  refine Sp_of (own := RX6) (by decide) rfl (Nat.le_of_ble_eq_true rfl) ?_
  intro p e s m args below meth c C
  show Rt G p l e (lvl 0) s m args below meth c 0 0 (MQ below (va_Qi (fun a b => a = r ∧ b = σ') (Wd G) (AG G)) args s 0 0 (AG G)) 3 0 [(0, vR (7, q0, 0))] [] σ
  unfold F_X6_howManyThere at hF
  refine r_iconst (v := (0 : Int32)) C dX6_howManyThere_0 rfl ?_
  refine r_istore_n (ls2 := [(1, vI (0 : Int32)), (0, vR (7, q0, 0))]) C dX6_howManyThere_1 1 rfl (by decide) rfl ?_
  refine r_iconst (v := (0 : Int32)) C dX6_howManyThere_2 rfl ?_
  refine r_istore_n (ls2 := [(2, vI (0 : Int32)), (1, vI (0 : Int32)), (0, vR (7, q0, 0))]) C dX6_howManyThere_3 2 rfl (by decide) rfl ?_
  refine r_drop (ls2 := [(0, vR (7, q0, 0)), (1, vI (0 : Int32)), (2, vI (0 : Int32))]) [2, 1, 0] rfl ?_
  refine l_X6_howManyThere_4 C q0  _ _ _ _ hF
def L_X10_go_25 (c1 : Int32) (c2 : Int32) : Nat → Int32 → St → (St → Option (Int32 × St)) → Option (Int32 × St)
  | 0, _, _, _ => none
  | n + 1, v3, τ, kx48 =>
  (if c1 ≤ v3 then kx48  τ else bd (F_X6_passTick 0 0 c2 τ) fun _ σ7 => nam (v3 + (1 : Int32)) fun x9 => L_X10_go_25 c1 c2 n x9 σ7 kx48)
def F_X10_go (a1 : Int32) (σ : St) : Option (Int32 × St) :=
  bd (F_X10_within a1 (1 : Int32) (200 : Int32) σ) fun r2 σ1 => (if r2 = 0 then some ((-1 : Int32), σ1) else bd (F_X5_value 0 (8 : Int32) σ1) fun r5 σ4 => L_X10_go_25 a1 r5 FU (0 : Int32) σ4 (fun  (σ11 : St) => bd (F_X6_howManyThere 0 σ11) fun r13 σ12 => some (r13, σ12)))
set_option maxRecDepth 20000 in
set_option maxHeartbeats 4000000 in
theorem l_X10_go_25 {G : Gx} {p : Program} {l : Launch} {e : Env} {s : State} {m : MethodId} {args : Array Value} {below : List Frame} {meth : Method} {c : Code} (C : Cx G p s m args meth c (some .int) 4 RX10 cX10_go) (c1 : Int32) (c2 : Int32) {σ' : St} {r : Int32} (kx48 : St → Option (Int32 × St)) (hkx48 : ∀  (τ : St), kx48  τ = some (r, σ') → Rt G p l e (lvl 4) s m args below meth c 0 0 (MQ below (va_Qi (fun a b => a = r ∧ b = σ') (Wd G) (AG G)) args s 0 0 (AG G)) 4 48 [(0, vR (0, 0, 0))] [] τ) : ∀ (n : Nat) (v3 : Int32) (τ : St), L_X10_go_25 c1 c2 n v3 τ kx48 = some (r, σ') → Rt G p l e (lvl 4) s m args below meth c 0 0 (MQ below (va_Qi (fun a b => a = r ∧ b = σ') (Wd G) (AG G)) args s 0 0 (AG G)) 4 25 [(0, vR (0, 0, 0)), (1, vI c1), (2, vI c2), (3, vI v3)] [] τ := by
  intro n
  induction n with
  | zero => intro v3 τ hF; cases hF
  | succ n ih =>
    intro v3 τ hF
    unfold L_X10_go_25 at hF
    refine r_iload_n C 3 3 dX10_go_25 rfl rfl ?_
    refine r_iload_n C 1 1 dX10_go_26 rfl rfl ?_
    refine r_icmp_ge C 48 dX10_go_27 (by decide)  (fun h10 => ?_) (fun h10 => ?_)
    · have hF := if_t h10 hF
      refine r_drop (ls2 := [(0, vR (0, 0, 0))]) [0] rfl ?_
      exact hkx48 _ hF
    · have hF := if_f h10 hF
      refine r_aload_n C 0 0 dX10_go_30 rfl rfl ?_
      refine r_getR (kf := 4) (d2 := (7, 0, 0)) C dX10_go_31 rfl rfl f_X10 (by decide) t_2_100 rfl rfl ?_
      refine r_aload_n C 0 0 dX10_go_34 rfl rfl ?_
      refine r_getR (kf := 3) (d2 := (3, 0, 0)) C dX10_go_35 rfl rfl f_X10 (by decide) t_2_99 rfl rfl ?_
      refine r_iload_n C 2 2 dX10_go_38 rfl rfl ?_
      obtain ⟨⟨⟩, σ7, e8, hF⟩ := bd_e hF
      refine r_callV_v (as := [vR (3, 0, 0), vI c2]) (st := []) C dX10_go_39 (s_X6_passTick G l e8) rfl rfl rfl t_3_178 t_3_179 t_3_180 t_1_5 t_3_181 m_X6_passTick ⟨Nat.le_of_ble_eq_true rfl, Nat.le_of_ble_eq_true rfl⟩ ⟨rfl, rfl⟩ ⟨Nat.zero_le _, Nat.zero_le _⟩ rfl (Nat.le_of_ble_eq_true rfl) ?_
      obtain ⟨x9, ex9, hF⟩ := nam_e hF
      refine r_iinc (v := x9) (ls2 := [(3, vI x9), (0, vR (0, 0, 0)), (1, vI c1), (2, vI c2)]) C 3 dX10_go_42 rfl ex9.symm (by decide) rfl ?_
      refine r_goto C 25 dX10_go_45 (by decide) ?_
      refine r_drop (ls2 := [(0, vR (0, 0, 0)), (1, vI c1), (2, vI c2), (3, vI x9)]) [1, 2, 3, 0] rfl ?_
      exact ih _ _ hF
set_option maxRecDepth 20000 in
set_option maxHeartbeats 4000000 in
theorem s_X10_go (G : Gx) (l : Launch) {a1 : Int32} {σ σ' : St} {r : Int32} (hF : F_X10_go a1 σ = some (r, σ')) : Sp G l yX10_go cX10_go 4 (some .int) (lvl 4) [vR (0, 0, 0), vI a1] σ (va_Qi (fun a b => a = r ∧ b = σ') (Wd G) (AG G)) := by
  refine Sp_of (own := RX10) (by decide) rfl (Nat.le_of_ble_eq_true rfl) ?_
  intro p e s m args below meth c C
  show Rt G p l e (lvl 4) s m args below meth c 0 0 (MQ below (va_Qi (fun a b => a = r ∧ b = σ') (Wd G) (AG G)) args s 0 0 (AG G)) 4 0 [(0, vR (0, 0, 0)), (1, vI a1)] [] σ
  unfold F_X10_go at hF
  refine r_iload_n C 1 1 dX10_go_0 rfl rfl ?_
  refine r_iconst (v := (1 : Int32)) C dX10_go_1 rfl ?_
  refine r_sipush (v := (200 : Int32)) C dX10_go_2 rfl ?_
  obtain ⟨r2, σ1, e3, hF⟩ := bd_e hF
  refine r_callS_i (as := [vI a1, vI (1 : Int32), vI (200 : Int32)]) (st := []) C dX10_go_5 (s_X10_within G l e3) t_2_141 t_2_142 t_1_1 t_2_143 m_X10_within ⟨Nat.le_of_ble_eq_true rfl, Nat.le_of_ble_eq_true rfl⟩ ⟨rfl, rfl⟩ ⟨Nat.zero_le _, Nat.zero_le _⟩ rfl (Nat.le_of_ble_eq_true rfl) ?_
  refine r_if_ne C 13 dX10_go_8 (by decide)  (fun h15 => ?_) (fun h15 => ?_)
  · have hF := if_f h15 hF
    refine r_aload_n C 0 0 dX10_go_13 rfl rfl ?_
    refine r_getR (kf := 3) (d2 := (3, 0, 0)) C dX10_go_14 rfl rfl f_X10 (by decide) t_2_99 rfl rfl ?_
    refine r_bipush (v := (8 : Int32)) C dX10_go_17 rfl ?_
    obtain ⟨r5, σ4, e6, hF⟩ := bd_e hF
    refine r_callV_i (as := [vI (8 : Int32)]) (st := []) C dX10_go_19 (s_X5_value G l e6) rfl rfl rfl t_3_113 t_3_88 t_3_89 t_1_3 t_3_90 m_X5_value ⟨Nat.le_of_ble_eq_true rfl, Nat.le_of_ble_eq_true rfl⟩ ⟨rfl, rfl⟩ ⟨Nat.zero_le _, Nat.zero_le _⟩ rfl (Nat.le_of_ble_eq_true rfl) ?_
    refine r_istore_n (ls2 := [(2, vI r5), (0, vR (0, 0, 0)), (1, vI a1)]) C dX10_go_22 2 rfl (by decide) rfl ?_
    refine r_iconst (v := (0 : Int32)) C dX10_go_23 rfl ?_
    refine r_istore_n (ls2 := [(3, vI (0 : Int32)), (2, vI r5), (0, vR (0, 0, 0)), (1, vI a1)]) C dX10_go_24 3 rfl (by decide) rfl ?_
    refine r_drop (ls2 := [(0, vR (0, 0, 0)), (1, vI a1), (2, vI r5), (3, vI (0 : Int32))]) [2, 3, 1, 0] rfl ?_
    refine l_X10_go_25 C a1 r5 _ ?_ _ _ _ hF
    · intro  σ11 hF
      refine r_aload_n C 0 0 dX10_go_48 rfl rfl ?_
      refine r_getR (kf := 4) (d2 := (7, 0, 0)) C dX10_go_49 rfl rfl f_X10 (by decide) t_2_100 rfl rfl ?_
      obtain ⟨r13, σ12, e14, hF⟩ := bd_e hF
      refine r_callV_i (as := []) (st := []) C dX10_go_52 (s_X6_howManyThere G l e14) rfl rfl rfl t_3_239 t_4_0 t_4_1 t_1_5 t_4_2 m_X6_howManyThere ⟨Nat.le_of_ble_eq_true rfl, Nat.le_of_ble_eq_true rfl⟩ ⟨rfl, rfl⟩ ⟨Nat.zero_le _, Nat.zero_le _⟩ rfl (Nat.le_of_ble_eq_true rfl) ?_
      exact r_ireturn C dX10_go_55 (rt_e hF)
  · have hF := if_t h15 hF
    refine r_iconst (v := (-1 : Int32)) C dX10_go_11 rfl ?_
    exact r_ireturn C dX10_go_12 (rt_e hF)
def F_X10_seed (a1 : Int32) (σ : St) : Option (Int32 × St) :=
  nam (σ.1 (7, 0, 0) 5) fun x1 => nam (uI σ (7, 0, 0) 5 a1) fun σ2 => some (x1, σ2)
set_option maxRecDepth 20000 in
set_option maxHeartbeats 4000000 in
theorem s_X10_seed (G : Gx) (l : Launch) {a1 : Int32} {σ σ' : St} {r : Int32} (hF : F_X10_seed a1 σ = some (r, σ')) : Sp G l yX10_seed cX10_seed 3 (some .int) (lvl 0) [vR (0, 0, 0), vI a1] σ (va_Qi (fun a b => a = r ∧ b = σ') (Wd G) (AG G)) := by
  refine Sp_of (own := RX10) (by decide) rfl (Nat.le_of_ble_eq_true rfl) ?_
  intro p e s m args below meth c C
  show Rt G p l e (lvl 0) s m args below meth c 0 0 (MQ below (va_Qi (fun a b => a = r ∧ b = σ') (Wd G) (AG G)) args s 0 0 (AG G)) 3 0 [(0, vR (0, 0, 0)), (1, vI a1)] [] σ
  unfold F_X10_seed at hF
  refine r_aload_n C 0 0 dX10_seed_0 rfl rfl ?_
  refine r_getR (kf := 4) (d2 := (7, 0, 0)) C dX10_seed_1 rfl rfl f_X10 (by decide) t_2_100 rfl rfl ?_
  refine r_getI (kf := 5) C dX10_seed_4 rfl rfl f_X6 (by decide) t_1_166 rfl ?_
  obtain ⟨x1, ex1, hF⟩ := nam_e hF
  refine r_topI ex1 ?_
  refine r_istore_n (ls2 := [(2, vI x1), (0, vR (0, 0, 0)), (1, vI a1)]) C dX10_seed_7 2 rfl (by decide) rfl ?_
  refine r_aload_n C 1 0 dX10_seed_8 rfl rfl ?_
  refine r_getR (kf := 4) (d2 := (7, 0, 0)) C dX10_seed_9 rfl rfl f_X10 (by decide) t_2_100 rfl rfl ?_
  refine r_iload_n C 2 1 dX10_seed_12 rfl rfl ?_
  obtain ⟨σ2, eσ2, hF⟩ := nam_e hF
  refine r_put (kf := 5) (ty0 := tyX6) C dX10_seed_13 rfl rfl f_X6 tyX6_ok nmX6 (by decide) t_1_166 rfl rfl rfl rfl eσ2 ?_
  refine r_iload_n C 0 2 dX10_seed_16 rfl rfl ?_
  exact r_ireturn C dX10_seed_17 (rt_e hF)
def F_X6_isDrop (q0 : Nat) (a1 : Int32) (σ : St) : Option (Int32 × St) :=
  (if a1 < 0 then some ((0 : Int32), σ) else (if (σ.1 (7, q0, 0) 2) ≤ a1 then some ((0 : Int32), σ) else some ((1 : Int32), σ)))
set_option maxRecDepth 20000 in
set_option maxHeartbeats 4000000 in
theorem s_X6_isDrop (G : Gx) (l : Launch) {q0 : Nat} {a1 : Int32} {σ σ' : St} {r : Int32} (hF : F_X6_isDrop q0 a1 σ = some (r, σ')) : Sp G l yX6_isDrop cX6_isDrop 2 (some .boolean) (lvl 0) [vR (7, q0, 0), vI a1] σ (va_Qi (fun a b => a = r ∧ b = σ') (Wd G) (AG G)) := by
  refine Sp_of (own := RX6) (by decide) rfl (Nat.le_of_ble_eq_true rfl) ?_
  intro p e s m args below meth c C
  show Rt G p l e (lvl 0) s m args below meth c 0 0 (MQ below (va_Qi (fun a b => a = r ∧ b = σ') (Wd G) (AG G)) args s 0 0 (AG G)) 2 0 [(0, vR (7, q0, 0)), (1, vI a1)] [] σ
  unfold F_X6_isDrop at hF
  refine r_iload_n C 1 1 dX6_isDrop_0 rfl rfl ?_
  refine r_if_lt C 16 dX6_isDrop_1 (by decide)  (fun h2 => ?_) (fun h2 => ?_)
  · have hF := if_t h2 hF
    refine r_iconst (v := (0 : Int32)) C dX6_isDrop_16 rfl ?_
    exact r_zreturn C dX6_isDrop_17 (nar_z (Or.inl rfl)) (rt_e hF)
  · have hF := if_f h2 hF
    refine r_iload_n C 1 1 dX6_isDrop_4 rfl rfl ?_
    refine r_aload_n C 0 0 dX6_isDrop_5 rfl rfl ?_
    refine r_getI (kf := 2) C dX6_isDrop_6 rfl rfl f_X6 (by decide) t_1_159 rfl ?_
    refine r_icmp_ge C 16 dX6_isDrop_9 (by decide)  (fun h1 => ?_) (fun h1 => ?_)
    · have hF := if_t h1 hF
      refine r_iconst (v := (0 : Int32)) C dX6_isDrop_16 rfl ?_
      exact r_zreturn C dX6_isDrop_17 (nar_z (Or.inl rfl)) (rt_e hF)
    · have hF := if_f h1 hF
      refine r_iconst (v := (1 : Int32)) C dX6_isDrop_12 rfl ?_
      refine r_goto C 17 dX6_isDrop_13 (by decide) ?_
      exact r_zreturn C dX6_isDrop_17 (nar_z (Or.inr rfl)) (rt_e hF)
def F_X10_of (a1 : Int32) (a2 : Int32) (σ : St) : Option (Int32 × St) :=
  bd (F_X6_isDrop 0 a1 σ) fun r2 σ1 => (if r2 = 0 then some ((-1 : Int32), σ1) else ck (inb a1 12) ((if a2 = (0 : Int32) then some (σ1.1 (10, 0, (a1.toNatClampNeg)) 0, σ1) else (if a2 = (1 : Int32) then some (σ1.1 (10, 0, (a1.toNatClampNeg)) 1, σ1) else (if a2 = (2 : Int32) then some (σ1.1 (10, 0, (a1.toNatClampNeg)) 2, σ1) else (if a2 = (3 : Int32) then some (σ1.1 (10, 0, (a1.toNatClampNeg)) 3, σ1) else (if a2 = (4 : Int32) then some (σ1.1 (10, 0, (a1.toNatClampNeg)) 4, σ1) else (if a2 = (5 : Int32) then some (σ1.1 (10, 0, (a1.toNatClampNeg)) 5, σ1) else some ((-1 : Int32), σ1)))))))))
set_option maxRecDepth 20000 in
set_option maxHeartbeats 4000000 in
theorem s_X10_of (G : Gx) (l : Launch) {a1 : Int32} {a2 : Int32} {σ σ' : St} {r : Int32} (hF : F_X10_of a1 a2 σ = some (r, σ')) : Sp G l yX10_of cX10_of 4 (some .int) (lvl 1) [vR (0, 0, 0), vI a1, vI a2] σ (va_Qi (fun a b => a = r ∧ b = σ') (Wd G) (AG G)) := by
  refine Sp_of (own := RX10) (by decide) rfl (Nat.le_of_ble_eq_true rfl) ?_
  intro p e s m args below meth c C
  show Rt G p l e (lvl 1) s m args below meth c 0 0 (MQ below (va_Qi (fun a b => a = r ∧ b = σ') (Wd G) (AG G)) args s 0 0 (AG G)) 4 0 [(0, vR (0, 0, 0)), (1, vI a1), (2, vI a2)] [] σ
  unfold F_X10_of at hF
  refine r_aload_n C 0 0 dX10_of_0 rfl rfl ?_
  refine r_getR (kf := 4) (d2 := (7, 0, 0)) C dX10_of_1 rfl rfl f_X10 (by decide) t_2_100 rfl rfl ?_
  refine r_iload_n C 1 1 dX10_of_4 rfl rfl ?_
  obtain ⟨r2, σ1, e3, hF⟩ := bd_e hF
  refine r_callV_i (as := [vI a1]) (st := []) C dX10_of_5 (s_X6_isDrop G l e3) rfl rfl rfl t_4_11 t_4_12 t_4_13 t_1_5 t_4_14 m_X6_isDrop ⟨Nat.le_of_ble_eq_true rfl, Nat.le_of_ble_eq_true rfl⟩ ⟨rfl, rfl⟩ ⟨Nat.zero_le _, Nat.zero_le _⟩ rfl (Nat.le_of_ble_eq_true rfl) ?_
  refine r_if_ne C 13 dX10_of_8 (by decide)  (fun h11 => ?_) (fun h11 => ?_)
  · have hF := if_f h11 hF
    refine r_aload_n C 0 0 dX10_of_13 rfl rfl ?_
    refine r_getR (kf := 4) (d2 := (7, 0, 0)) C dX10_of_14 rfl rfl f_X10 (by decide) t_2_100 rfl rfl ?_
    refine r_getR (kf := 1) (d2 := (9, 0, 0)) C dX10_of_17 rfl rfl f_X6 (by decide) t_1_158 rfl rfl ?_
    refine r_iload_n C 1 1 dX10_of_20 rfl rfl ?_
    obtain ⟨h4, hF⟩ := ck_e hF
    refine r_aaload (cA := 0) (d2 := (10, 0, (a1.toNatClampNeg))) C dX10_of_21 rfl rfl h4 rfl ?_
    refine r_astore_n (ls2 := [(3, vR (10, 0, (a1.toNatClampNeg))), (0, vR (0, 0, 0)), (1, vI a1), (2, vI a2)]) C dX10_of_22 3 rfl (by decide) rfl ?_
    refine r_iload_n C 3 2 dX10_of_23 rfl rfl ?_
    by_cases h5 : a2 = (0 : Int32)
    · have hF := if_t h5 hF
      refine r_tabIn (off := 40) C 64 dX10_of_24 (by rw [h5]; decide) (by rw [h5]; decide) (by rw [h5]; rfl) (by decide) ?_
      refine r_aload_n C 0 3 dX10_of_64 rfl rfl ?_
      refine r_getI (kf := 0) C dX10_of_65 rfl rfl f_X0 (by decide) t_1_122 rfl ?_
      exact r_ireturn C dX10_of_68 (rt_e hF)
    have hF := if_f h5 hF
    by_cases h6 : a2 = (1 : Int32)
    · have hF := if_t h6 hF
      refine r_tabIn (off := 45) C 69 dX10_of_24 (by rw [h6]; decide) (by rw [h6]; decide) (by rw [h6]; rfl) (by decide) ?_
      refine r_aload_n C 0 3 dX10_of_69 rfl rfl ?_
      refine r_getI (kf := 1) C dX10_of_70 rfl rfl f_X0 (by decide) t_1_125 rfl ?_
      exact r_ireturn C dX10_of_73 (rt_e hF)
    have hF := if_f h6 hF
    by_cases h7 : a2 = (2 : Int32)
    · have hF := if_t h7 hF
      refine r_tabIn (off := 50) C 74 dX10_of_24 (by rw [h7]; decide) (by rw [h7]; decide) (by rw [h7]; rfl) (by decide) ?_
      refine r_aload_n C 0 3 dX10_of_74 rfl rfl ?_
      refine r_getI (kf := 2) C dX10_of_75 rfl rfl f_X0 (by decide) t_1_128 rfl ?_
      exact r_ireturn C dX10_of_78 (rt_e hF)
    have hF := if_f h7 hF
    by_cases h8 : a2 = (3 : Int32)
    · have hF := if_t h8 hF
      refine r_tabIn (off := 55) C 79 dX10_of_24 (by rw [h8]; decide) (by rw [h8]; decide) (by rw [h8]; rfl) (by decide) ?_
      refine r_aload_n C 0 3 dX10_of_79 rfl rfl ?_
      refine r_getI (kf := 3) C dX10_of_80 rfl rfl f_X0 (by decide) t_1_133 rfl ?_
      exact r_ireturn C dX10_of_83 (rt_e hF)
    have hF := if_f h8 hF
    by_cases h9 : a2 = (4 : Int32)
    · have hF := if_t h9 hF
      refine r_tabIn (off := 60) C 84 dX10_of_24 (by rw [h9]; decide) (by rw [h9]; decide) (by rw [h9]; rfl) (by decide) ?_
      refine r_aload_n C 0 3 dX10_of_84 rfl rfl ?_
      refine r_getI (kf := 4) C dX10_of_85 rfl rfl f_X0 (by decide) t_1_135 rfl ?_
      exact r_ireturn C dX10_of_88 (rt_e hF)
    have hF := if_f h9 hF
    by_cases h10 : a2 = (5 : Int32)
    · have hF := if_t h10 hF
      refine r_tabIn (off := 65) C 89 dX10_of_24 (by rw [h10]; decide) (by rw [h10]; decide) (by rw [h10]; rfl) (by decide) ?_
      refine r_aload_n C 0 3 dX10_of_89 rfl rfl ?_
      refine r_getI (kf := 5) C dX10_of_90 rfl rfl f_X0 (by decide) t_1_138 rfl ?_
      exact r_ireturn C dX10_of_93 (rt_e hF)
    have hF := if_f h10 hF
    refine r_tabOut C 94 dX10_of_24 (by have u0 := lv_neT h5 (a := 0) rfl; have u1 := lv_neT h6 (a := 1) rfl; have u2 := lv_neT h7 (a := 2) rfl; have u3 := lv_neT h8 (a := 3) rfl; have u4 := lv_neT h9 (a := 4) rfl; have u5 := lv_neT h10 (a := 5) rfl; omega) (by decide) ?_
    refine r_iconst (v := (-1 : Int32)) C dX10_of_94 rfl ?_
    exact r_ireturn C dX10_of_95 (rt_e hF)
  · have hF := if_t h11 hF
    refine r_iconst (v := (-1 : Int32)) C dX10_of_11 rfl ?_
    exact r_ireturn C dX10_of_12 (rt_e hF)
