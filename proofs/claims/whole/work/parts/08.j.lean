def F_X11_isDrop (a0 : Int32) (a1 : Int32) (a2 : Int32) (σ : St) : Option (Int32 × St) :=
  bd (F_X11_isCell a0 σ) fun r2 σ1 => (if r2 = 0 then some ((0 : Int32), σ1) else bd (F_X11_in (a1.toInt64) (1 : Int64) (60 : Int64) σ1) fun r5 σ4 => (if r5 = 0 then some ((0 : Int32), σ4) else bd (F_X11_in (a2.toInt64) (0 : Int64) (3 : Int64) σ4) fun r8 σ7 => (if r8 = 0 then some ((0 : Int32), σ7) else some ((1 : Int32), σ7))))
set_option maxRecDepth 20000 in
set_option maxHeartbeats 4000000 in
theorem s_X11_isDrop (G : Gx) (l : Launch) {a0 : Int32} {a1 : Int32} {a2 : Int32} {σ σ' : St} {r : Int32} (hF : F_X11_isDrop a0 a1 a2 σ = some (r, σ')) : Sp G l yX11_isDrop cX11_isDrop 3 (some .boolean) (lvl 2) [vI a0, vI a1, vI a2] σ (va_Qi (fun a b => a = r ∧ b = σ') (Wd G) (AG G)) := by
  refine Sp_of (own := RX11) (by decide) rfl (Nat.le_of_ble_eq_true rfl) ?_
  intro p e s m args below meth c C
  show Rt G p l e (lvl 2) s m args below meth c 0 0 (MQ below (va_Qi (fun a b => a = r ∧ b = σ') (Wd G) (AG G)) args s 0 0 (AG G)) 3 0 [(0, vI a0), (1, vI a1), (2, vI a2)] [] σ
  unfold F_X11_isDrop at hF
  refine r_iload_n C 0 0 dX11_isDrop_0 rfl rfl ?_
  obtain ⟨r2, σ1, e3, hF⟩ := bd_e hF
  refine r_callS_i (as := [vI a0]) (st := []) C dX11_isDrop_1 (s_X11_isCell G l e3) t_5_223 t_5_224 t_1_14 t_5_225 m_X11_isCell ⟨Nat.le_of_ble_eq_true rfl, Nat.le_of_ble_eq_true rfl⟩ ⟨rfl, rfl⟩ ⟨Nat.zero_le _, Nat.zero_le _⟩ rfl (Nat.le_of_ble_eq_true rfl) ?_
  refine r_if_eq C 35 dX11_isDrop_4 (by decide)  (fun h12 => ?_) (fun h12 => ?_)
  · have hF := if_t h12 hF
    refine r_iconst (v := (0 : Int32)) C dX11_isDrop_35 rfl ?_
    exact r_zreturn C dX11_isDrop_36 (nar_z (Or.inl rfl)) (rt_e hF)
  · have hF := if_f h12 hF
    refine r_iload_n C 1 1 dX11_isDrop_7 rfl rfl ?_
    refine r_i2l C dX11_isDrop_8 ?_
    refine r_lconst (v := (1 : Int64)) C dX11_isDrop_9 rfl ?_
    refine r_ldc2_w (v := (60 : Int64)) C dX11_isDrop_10 t_6_15 ?_
    obtain ⟨r5, σ4, e6, hF⟩ := bd_e hF
    refine r_callS_i (as := [vL (a1.toInt64), vL (1 : Int64), vL (60 : Int64)]) (st := []) C dX11_isDrop_13 (s_X11_in G l e6) t_5_153 t_5_154 t_1_14 t_5_155 m_X11_in ⟨Nat.le_of_ble_eq_true rfl, Nat.le_of_ble_eq_true rfl⟩ ⟨rfl, rfl⟩ ⟨Nat.zero_le _, Nat.zero_le _⟩ rfl (Nat.le_of_ble_eq_true rfl) ?_
    refine r_if_eq C 35 dX11_isDrop_16 (by decide)  (fun h11 => ?_) (fun h11 => ?_)
    · have hF := if_t h11 hF
      refine r_iconst (v := (0 : Int32)) C dX11_isDrop_35 rfl ?_
      exact r_zreturn C dX11_isDrop_36 (nar_z (Or.inl rfl)) (rt_e hF)
    · have hF := if_f h11 hF
      refine r_iload_n C 2 2 dX11_isDrop_19 rfl rfl ?_
      refine r_i2l C dX11_isDrop_20 ?_
      refine r_lconst (v := (0 : Int64)) C dX11_isDrop_21 rfl ?_
      refine r_ldc2_w (v := (3 : Int64)) C dX11_isDrop_22 t_6_16 ?_
      obtain ⟨r8, σ7, e9, hF⟩ := bd_e hF
      refine r_callS_i (as := [vL (a2.toInt64), vL (0 : Int64), vL (3 : Int64)]) (st := []) C dX11_isDrop_25 (s_X11_in G l e9) t_5_153 t_5_154 t_1_14 t_5_155 m_X11_in ⟨Nat.le_of_ble_eq_true rfl, Nat.le_of_ble_eq_true rfl⟩ ⟨rfl, rfl⟩ ⟨Nat.zero_le _, Nat.zero_le _⟩ rfl (Nat.le_of_ble_eq_true rfl) ?_
      refine r_if_eq C 35 dX11_isDrop_28 (by decide)  (fun h10 => ?_) (fun h10 => ?_)
      · have hF := if_t h10 hF
        refine r_iconst (v := (0 : Int32)) C dX11_isDrop_35 rfl ?_
        exact r_zreturn C dX11_isDrop_36 (nar_z (Or.inl rfl)) (rt_e hF)
      · have hF := if_f h10 hF
        refine r_iconst (v := (1 : Int32)) C dX11_isDrop_31 rfl ?_
        refine r_goto C 36 dX11_isDrop_32 (by decide) ?_
        exact r_zreturn C dX11_isDrop_36 (nar_z (Or.inr rfl)) (rt_e hF)
def F_X11_drop (a1 : Int32) (a2 : Int32) (a3 : Int32) (σ : St) : Option (Int32 × St) :=
  bd (F_X11_isDrop a1 a2 a3 σ) fun r2 σ1 => (if r2 = 0 then some ((-1 : Int32), σ1) else ck (inb a1 576) (bd (F_X11_isShut (σ1.1 (41, 0, 0) (a1.toNatClampNeg)) σ1) fun r6 σ5 => (if r6 = 0 then bd (F_X11_inCell a1 (-4 : Int32) σ5) fun r9 σ8 => (if r9 = (-4 : Int32) then ck (inb (176 : Int32) 576) ((if (σ8.1 (41, 0, 0) 176) = (12 : Int32) then some ((-3 : Int32), σ8) else ck (inb (176 : Int32) 576) (nam (σ8.1 (41, 0, 0) 176) fun x13 => ck (inb ((96 : Int32) + x13) 576) (nam (uI σ8 (41, 0, 0) (((96 : Int32) + x13).toNatClampNeg) a1) fun σ15 => ck (inb ((108 : Int32) + x13) 576) (nam (uI σ15 (41, 0, 0) (((108 : Int32) + x13).toNatClampNeg) a2) fun σ17 => ck (inb ((120 : Int32) + x13) 576) (nam (uI σ17 (41, 0, 0) (((120 : Int32) + x13).toNatClampNeg) a3) fun σ19 => ck (inb ((132 : Int32) + x13) 576) (nam (uI σ19 (41, 0, 0) (((132 : Int32) + x13).toNatClampNeg) (0 : Int32)) fun σ21 => ck (inb ((144 : Int32) + x13) 576) (nam (uI σ21 (41, 0, 0) (((144 : Int32) + x13).toNatClampNeg) (-4 : Int32)) fun σ23 => ck (inb ((156 : Int32) + x13) 576) (nam (uI σ23 (41, 0, 0) (((156 : Int32) + x13).toNatClampNeg) (-4 : Int32)) fun σ25 => ck (inb (174 : Int32) 576) (ck (inb (174 : Int32) 576) (nam (uI σ25 (41, 0, 0) 174 ((σ25.1 (41, 0, 0) 174) + a2)) fun σ28 => ck (inb (176 : Int32) 576) (nam (uI σ28 (41, 0, 0) 176 (x13 + (1 : Int32))) fun σ30 => some (x13, σ30))))))))))))) else some ((-2 : Int32), σ8)) else some ((-2 : Int32), σ5))))
set_option maxRecDepth 20000 in
set_option maxHeartbeats 4000000 in
theorem s_X11_drop (G : Gx) (l : Launch) {a1 : Int32} {a2 : Int32} {a3 : Int32} {σ σ' : St} {r : Int32} (hF : F_X11_drop a1 a2 a3 σ = some (r, σ')) : Sp G l yX11_drop cX11_drop 5 (some .int) (lvl 3) [vR (40, 0, 0), vI a1, vI a2, vI a3] σ (va_Qi (fun a b => a = r ∧ b = σ') (Wd G) (AG G)) := by
  refine Sp_of (own := RX11) (by decide) rfl (Nat.le_of_ble_eq_true rfl) ?_
  intro p e s m args below meth c C
  show Rt G p l e (lvl 3) s m args below meth c 0 0 (MQ below (va_Qi (fun a b => a = r ∧ b = σ') (Wd G) (AG G)) args s 0 0 (AG G)) 5 0 [(0, vR (40, 0, 0)), (1, vI a1), (2, vI a2), (3, vI a3)] [] σ
  unfold F_X11_drop at hF
  refine r_iload_n C 1 1 dX11_drop_0 rfl rfl ?_
  refine r_iload_n C 2 2 dX11_drop_1 rfl rfl ?_
  refine r_iload_n C 3 3 dX11_drop_2 rfl rfl ?_
  obtain ⟨r2, σ1, e3, hF⟩ := bd_e hF
  refine r_callS_i (as := [vI a1, vI a2, vI a3]) (st := []) C dX11_drop_3 (s_X11_isDrop G l e3) t_6_12 t_6_13 t_1_14 t_6_14 m_X11_isDrop ⟨Nat.le_of_ble_eq_true rfl, Nat.le_of_ble_eq_true rfl⟩ ⟨rfl, rfl⟩ ⟨Nat.zero_le _, Nat.zero_le _⟩ rfl (Nat.le_of_ble_eq_true rfl) ?_
  refine r_if_ne C 11 dX11_drop_6 (by decide)  (fun h34 => ?_) (fun h34 => ?_)
  · have hF := if_f h34 hF
    refine r_aload_n C 0 0 dX11_drop_11 rfl rfl ?_
    refine r_getR (kf := 0) (d2 := (41, 0, 0)) C dX11_drop_12 rfl rfl f_X11 (by decide) t_5_56 rfl rfl ?_
    refine r_iload_n C 1 1 dX11_drop_15 rfl rfl ?_
    obtain ⟨h4, hF⟩ := ck_e hF
    refine r_iaload C (a1.toNatClampNeg) dX11_drop_16 rfl h4 rfl ?_
    obtain ⟨r6, σ5, e7, hF⟩ := bd_e hF
    refine r_callS_i (as := [vI (σ1.1 (41, 0, 0) (a1.toNatClampNeg))]) (st := []) C dX11_drop_17 (s_X11_isShut G l e7) t_5_232 t_5_233 t_1_14 t_5_234 m_X11_isShut ⟨Nat.le_of_ble_eq_true rfl, Nat.le_of_ble_eq_true rfl⟩ ⟨rfl, rfl⟩ ⟨Nat.zero_le _, Nat.zero_le _⟩ rfl (Nat.le_of_ble_eq_true rfl) ?_
    refine r_if_ne C 35 dX11_drop_20 (by decide)  (fun h33 => ?_) (fun h33 => ?_)
    · have hF := if_f h33 hF
      refine r_bipush (v := (-2 : Int32)) C dX11_drop_35 rfl ?_
      exact r_ireturn C dX11_drop_37 (rt_e hF)
    · have hF := if_t h33 hF
      refine r_aload_n C 0 0 dX11_drop_23 rfl rfl ?_
      refine r_iload_n C 1 1 dX11_drop_24 rfl rfl ?_
      refine r_bipush (v := (-4 : Int32)) C dX11_drop_25 rfl ?_
      obtain ⟨r9, σ8, e10, hF⟩ := bd_e hF
      refine r_callV_i (as := [vI a1, vI (-4 : Int32)]) (st := []) C dX11_drop_27 (s_X11_inCell G l e10) rfl rfl rfl t_5_235 t_5_237 t_s_33 t_1_14 t_5_238 m_X11_inCell ⟨Nat.le_of_ble_eq_true rfl, Nat.le_of_ble_eq_true rfl⟩ ⟨rfl, rfl⟩ ⟨Nat.zero_le _, Nat.zero_le _⟩ rfl (Nat.le_of_ble_eq_true rfl) ?_
      refine r_bipush (v := (-4 : Int32)) C dX11_drop_30 rfl ?_
      refine r_icmp_eq C 38 dX11_drop_32 (by decide)  (fun h32 => ?_) (fun h32 => ?_)
      · have hF := if_t h32 hF
        refine r_aload_n C 0 0 dX11_drop_38 rfl rfl ?_
        refine r_getR (kf := 0) (d2 := (41, 0, 0)) C dX11_drop_39 rfl rfl f_X11 (by decide) t_5_56 rfl rfl ?_
        refine r_sipush (v := (176 : Int32)) C dX11_drop_42 rfl ?_
        obtain ⟨h11, hF⟩ := ck_e hF
        refine r_iaload C 176 dX11_drop_45 rfl h11 rfl ?_
        refine r_bipush (v := (12 : Int32)) C dX11_drop_46 rfl ?_
        refine r_icmp_ne C 54 dX11_drop_48 (by decide)  (fun h31 => ?_) (fun h31 => ?_)
        · have hF := if_f h31 hF
          refine r_aload_n C 0 0 dX11_drop_54 rfl rfl ?_
          refine r_getR (kf := 0) (d2 := (41, 0, 0)) C dX11_drop_55 rfl rfl f_X11 (by decide) t_5_56 rfl rfl ?_
          refine r_sipush (v := (176 : Int32)) C dX11_drop_58 rfl ?_
          obtain ⟨h12, hF⟩ := ck_e hF
          refine r_iaload C 176 dX11_drop_61 rfl h12 rfl ?_
          obtain ⟨x13, ex13, hF⟩ := nam_e hF
          refine r_topI ex13 ?_
          refine r_istore (ls2 := [(4, vI x13), (0, vR (40, 0, 0)), (1, vI a1), (2, vI a2), (3, vI a3)]) C dX11_drop_62 (by decide) rfl ?_
          refine r_aload_n C 1 0 dX11_drop_64 rfl rfl ?_
          refine r_getR (kf := 0) (d2 := (41, 0, 0)) C dX11_drop_65 rfl rfl f_X11 (by decide) t_5_56 rfl rfl ?_
          refine r_bipush (v := (96 : Int32)) C dX11_drop_68 rfl ?_
          refine r_iload C 0 dX11_drop_70 rfl ?_
          refine r_iadd C dX11_drop_72 ?_
          refine r_iload_n C 2 1 dX11_drop_73 rfl rfl ?_
          obtain ⟨h14, hF⟩ := ck_e hF
          obtain ⟨σ15, eσ15, hF⟩ := nam_e hF
          refine r_iastore C (((96 : Int32) + x13).toNatClampNeg) dX11_drop_74 rfl h14 rfl eσ15 ?_
          refine r_aload_n C 1 0 dX11_drop_75 rfl rfl ?_
          refine r_getR (kf := 0) (d2 := (41, 0, 0)) C dX11_drop_76 rfl rfl f_X11 (by decide) t_5_56 rfl rfl ?_
          refine r_bipush (v := (108 : Int32)) C dX11_drop_79 rfl ?_
          refine r_iload C 0 dX11_drop_81 rfl ?_
          refine r_iadd C dX11_drop_83 ?_
          refine r_iload_n C 3 2 dX11_drop_84 rfl rfl ?_
          obtain ⟨h16, hF⟩ := ck_e hF
          obtain ⟨σ17, eσ17, hF⟩ := nam_e hF
          refine r_iastore C (((108 : Int32) + x13).toNatClampNeg) dX11_drop_85 rfl h16 rfl eσ17 ?_
          refine r_aload_n C 1 0 dX11_drop_86 rfl rfl ?_
          refine r_getR (kf := 0) (d2 := (41, 0, 0)) C dX11_drop_87 rfl rfl f_X11 (by decide) t_5_56 rfl rfl ?_
          refine r_bipush (v := (120 : Int32)) C dX11_drop_90 rfl ?_
          refine r_iload C 0 dX11_drop_92 rfl ?_
          refine r_iadd C dX11_drop_94 ?_
          refine r_iload_n C 4 3 dX11_drop_95 rfl rfl ?_
          obtain ⟨h18, hF⟩ := ck_e hF
          obtain ⟨σ19, eσ19, hF⟩ := nam_e hF
          refine r_iastore C (((120 : Int32) + x13).toNatClampNeg) dX11_drop_96 rfl h18 rfl eσ19 ?_
          refine r_aload_n C 1 0 dX11_drop_97 rfl rfl ?_
          refine r_getR (kf := 0) (d2 := (41, 0, 0)) C dX11_drop_98 rfl rfl f_X11 (by decide) t_5_56 rfl rfl ?_
          refine r_sipush (v := (132 : Int32)) C dX11_drop_101 rfl ?_
          refine r_iload C 0 dX11_drop_104 rfl ?_
          refine r_iadd C dX11_drop_106 ?_
          refine r_iconst (v := (0 : Int32)) C dX11_drop_107 rfl ?_
          obtain ⟨h20, hF⟩ := ck_e hF
          obtain ⟨σ21, eσ21, hF⟩ := nam_e hF
          refine r_iastore C (((132 : Int32) + x13).toNatClampNeg) dX11_drop_108 rfl h20 rfl eσ21 ?_
          refine r_aload_n C 1 0 dX11_drop_109 rfl rfl ?_
          refine r_getR (kf := 0) (d2 := (41, 0, 0)) C dX11_drop_110 rfl rfl f_X11 (by decide) t_5_56 rfl rfl ?_
          refine r_sipush (v := (144 : Int32)) C dX11_drop_113 rfl ?_
          refine r_iload C 0 dX11_drop_116 rfl ?_
          refine r_iadd C dX11_drop_118 ?_
          refine r_bipush (v := (-4 : Int32)) C dX11_drop_119 rfl ?_
          obtain ⟨h22, hF⟩ := ck_e hF
          obtain ⟨σ23, eσ23, hF⟩ := nam_e hF
          refine r_iastore C (((144 : Int32) + x13).toNatClampNeg) dX11_drop_121 rfl h22 rfl eσ23 ?_
          refine r_aload_n C 1 0 dX11_drop_122 rfl rfl ?_
          refine r_getR (kf := 0) (d2 := (41, 0, 0)) C dX11_drop_123 rfl rfl f_X11 (by decide) t_5_56 rfl rfl ?_
          refine r_sipush (v := (156 : Int32)) C dX11_drop_126 rfl ?_
          refine r_iload C 0 dX11_drop_129 rfl ?_
          refine r_iadd C dX11_drop_131 ?_
          refine r_bipush (v := (-4 : Int32)) C dX11_drop_132 rfl ?_
          obtain ⟨h24, hF⟩ := ck_e hF
          obtain ⟨σ25, eσ25, hF⟩ := nam_e hF
          refine r_iastore C (((156 : Int32) + x13).toNatClampNeg) dX11_drop_134 rfl h24 rfl eσ25 ?_
          refine r_aload_n C 1 0 dX11_drop_135 rfl rfl ?_
          refine r_getR (kf := 0) (d2 := (41, 0, 0)) C dX11_drop_136 rfl rfl f_X11 (by decide) t_5_56 rfl rfl ?_
          refine r_sipush (v := (174 : Int32)) C dX11_drop_139 rfl ?_
          refine r_dup2_ri C dX11_drop_142 ?_
          obtain ⟨h26, hF⟩ := ck_e hF
          refine r_iaload C 174 dX11_drop_143 rfl h26 rfl ?_
          refine r_iload_n C 3 2 dX11_drop_144 rfl rfl ?_
          refine r_iadd C dX11_drop_145 ?_
          obtain ⟨h27, hF⟩ := ck_e hF
          obtain ⟨σ28, eσ28, hF⟩ := nam_e hF
          refine r_iastore C 174 dX11_drop_146 rfl h27 rfl eσ28 ?_
          refine r_aload_n C 1 0 dX11_drop_147 rfl rfl ?_
          refine r_getR (kf := 0) (d2 := (41, 0, 0)) C dX11_drop_148 rfl rfl f_X11 (by decide) t_5_56 rfl rfl ?_
          refine r_sipush (v := (176 : Int32)) C dX11_drop_151 rfl ?_
          refine r_iload C 0 dX11_drop_154 rfl ?_
          refine r_iconst (v := (1 : Int32)) C dX11_drop_156 rfl ?_
          refine r_iadd C dX11_drop_157 ?_
          obtain ⟨h29, hF⟩ := ck_e hF
          obtain ⟨σ30, eσ30, hF⟩ := nam_e hF
          refine r_iastore C 176 dX11_drop_158 rfl h29 rfl eσ30 ?_
          refine r_iload C 0 dX11_drop_159 rfl ?_
          exact r_ireturn C dX11_drop_161 (rt_e hF)
        · have hF := if_t h31 hF
          refine r_bipush (v := (-3 : Int32)) C dX11_drop_51 rfl ?_
          exact r_ireturn C dX11_drop_53 (rt_e hF)
      · have hF := if_f h32 hF
        refine r_bipush (v := (-2 : Int32)) C dX11_drop_35 rfl ?_
        exact r_ireturn C dX11_drop_37 (rt_e hF)
  · have hF := if_t h34 hF
    refine r_iconst (v := (-1 : Int32)) C dX11_drop_9 rfl ?_
    exact r_ireturn C dX11_drop_10 (rt_e hF)
def F_X11_nextTo (a0 : Int32) (a1 : Int32) (σ : St) : Option (Int32 × St) :=
  ck (decide (¬ (12 : Int32) = 0)) (nam (fun (y2 : Int32) (σ4 : St) => bd (F_X11_flag y2 σ4) fun r6 σ5 => nam (fun (y8 : Int32) (σ10 : St) => bd (F_X11_flag y8 σ10) fun r12 σ11 => nam (((a0 / (12 : Int32)) - r6) + r12) fun x14 => ck (decide (¬ (12 : Int32) = 0)) (nam (fun (y16 : Int32) (σ18 : St) => bd (F_X11_flag y16 σ18) fun r20 σ19 => nam (fun (y22 : Int32) (σ24 : St) => bd (F_X11_flag y22 σ24) fun r26 σ25 => nam (((a0 - a0 / (12 : Int32) * (12 : Int32)) + r20) - r26) fun x28 => bd (F_X11_in (x14.toInt64) (0 : Int64) (7 : Int64) σ25) fun r30 σ29 => (if r30 = 0 then some ((-4 : Int32), σ29) else bd (F_X11_in (x28.toInt64) (0 : Int64) (11 : Int64) σ29) fun r33 σ32 => (if r33 = 0 then some ((-4 : Int32), σ32) else some (((12 : Int32) * x14) + x28, σ32)))) fun k23 => (if a1 = (3 : Int32) then k23 (1 : Int32) σ19 else k23 (0 : Int32) σ19)) fun k17 => (if a1 = (1 : Int32) then k17 (1 : Int32) σ11 else k17 (0 : Int32) σ11))) fun k9 => (if a1 = (2 : Int32) then k9 (1 : Int32) σ5 else k9 (0 : Int32) σ5)) fun k3 => (if a1 = 0 then k3 (1 : Int32) σ else k3 (0 : Int32) σ))
set_option maxRecDepth 20000 in
set_option maxHeartbeats 4000000 in
theorem s_X11_nextTo (G : Gx) (l : Launch) {a0 : Int32} {a1 : Int32} {σ σ' : St} {r : Int32} (hF : F_X11_nextTo a0 a1 σ = some (r, σ')) : Sp G l yX11_nextTo cX11_nextTo 4 (some .int) (lvl 1) [vI a0, vI a1] σ (va_Qi (fun a b => a = r ∧ b = σ') (Wd G) (AG G)) := by
  refine Sp_of (own := RX11) (by decide) rfl (Nat.le_of_ble_eq_true rfl) ?_
  intro p e s m args below meth c C
  show Rt G p l e (lvl 1) s m args below meth c 0 0 (MQ below (va_Qi (fun a b => a = r ∧ b = σ') (Wd G) (AG G)) args s 0 0 (AG G)) 4 0 [(0, vI a0), (1, vI a1)] [] σ
  unfold F_X11_nextTo at hF
  refine r_iload_n C 0 0 dX11_nextTo_0 rfl rfl ?_
  refine r_bipush (v := (12 : Int32)) C dX11_nextTo_1 rfl ?_
  obtain ⟨h1, hF⟩ := ck_e hF
  refine r_idiv C dX11_nextTo_3 (nz h1) ?_
  refine r_iload_n C 1 1 dX11_nextTo_4 rfl rfl ?_
  obtain ⟨k3, ek3, hF⟩ := nam_e hF
  have hk3 : ∀ (y2 : Int32) (σ4 : St), k3 y2 σ4 = some (r, σ') → Rt G p l e (lvl 1) s m args below meth c 0 0 (MQ below (va_Qi (fun a b => a = r ∧ b = σ') (Wd G) (AG G)) args s 0 0 (AG G)) 4 13 [(0, vI a0), (1, vI a1)] [vI y2, vI (a0 / (12 : Int32))] σ4 := by
    intro y2 σ4 hF
    subst ek3
    obtain ⟨r6, σ5, e7, hF⟩ := bd_e hF
    refine r_callS_i (as := [vI y2]) (st := [vI (a0 / (12 : Int32))]) C dX11_nextTo_13 (s_X11_flag G l e7) t_5_195 t_5_196 t_1_14 t_5_197 m_X11_flag ⟨Nat.le_of_ble_eq_true rfl, Nat.le_of_ble_eq_true rfl⟩ ⟨rfl, rfl⟩ ⟨Nat.zero_le _, Nat.zero_le _⟩ rfl (Nat.le_of_ble_eq_true rfl) ?_
    refine r_isub C dX11_nextTo_16 ?_
    refine r_iload_n C 1 1 dX11_nextTo_17 rfl rfl ?_
    refine r_iconst (v := (2 : Int32)) C dX11_nextTo_18 rfl ?_
    obtain ⟨k9, ek9, hF⟩ := nam_e hF
    have hk9 : ∀ (y8 : Int32) (σ10 : St), k9 y8 σ10 = some (r, σ') → Rt G p l e (lvl 1) s m args below meth c 0 0 (MQ below (va_Qi (fun a b => a = r ∧ b = σ') (Wd G) (AG G)) args s 0 0 (AG G)) 4 27 [(0, vI a0), (1, vI a1)] [vI y8, vI ((a0 / (12 : Int32)) - r6)] σ10 := by
      intro y8 σ10 hF
      subst ek9
      obtain ⟨r12, σ11, e13, hF⟩ := bd_e hF
      refine r_callS_i (as := [vI y8]) (st := [vI ((a0 / (12 : Int32)) - r6)]) C dX11_nextTo_27 (s_X11_flag G l e13) t_5_195 t_5_196 t_1_14 t_5_197 m_X11_flag ⟨Nat.le_of_ble_eq_true rfl, Nat.le_of_ble_eq_true rfl⟩ ⟨rfl, rfl⟩ ⟨Nat.zero_le _, Nat.zero_le _⟩ rfl (Nat.le_of_ble_eq_true rfl) ?_
      refine r_iadd C dX11_nextTo_30 ?_
      obtain ⟨x14, ex14, hF⟩ := nam_e hF
      refine r_topI ex14 ?_
      refine r_istore_n (ls2 := [(2, vI x14), (0, vI a0), (1, vI a1)]) C dX11_nextTo_31 2 rfl (by decide) rfl ?_
      refine r_iload_n C 1 0 dX11_nextTo_32 rfl rfl ?_
      refine r_bipush (v := (12 : Int32)) C dX11_nextTo_33 rfl ?_
      obtain ⟨h15, hF⟩ := ck_e hF
      refine r_irem C dX11_nextTo_35 (nz h15) ?_
      refine r_iload_n C 2 1 dX11_nextTo_36 rfl rfl ?_
      refine r_iconst (v := (1 : Int32)) C dX11_nextTo_37 rfl ?_
      obtain ⟨k17, ek17, hF⟩ := nam_e hF
      have hk17 : ∀ (y16 : Int32) (σ18 : St), k17 y16 σ18 = some (r, σ') → Rt G p l e (lvl 1) s m args below meth c 0 0 (MQ below (va_Qi (fun a b => a = r ∧ b = σ') (Wd G) (AG G)) args s 0 0 (AG G)) 4 46 [(1, vI a1), (2, vI x14)] [vI y16, vI (a0 - a0 / (12 : Int32) * (12 : Int32))] σ18 := by
        intro y16 σ18 hF
        subst ek17
        obtain ⟨r20, σ19, e21, hF⟩ := bd_e hF
        refine r_callS_i (as := [vI y16]) (st := [vI (a0 - a0 / (12 : Int32) * (12 : Int32))]) C dX11_nextTo_46 (s_X11_flag G l e21) t_5_195 t_5_196 t_1_14 t_5_197 m_X11_flag ⟨Nat.le_of_ble_eq_true rfl, Nat.le_of_ble_eq_true rfl⟩ ⟨rfl, rfl⟩ ⟨Nat.zero_le _, Nat.zero_le _⟩ rfl (Nat.le_of_ble_eq_true rfl) ?_
        refine r_iadd C dX11_nextTo_49 ?_
        refine r_iload_n C 0 1 dX11_nextTo_50 rfl rfl ?_
        refine r_iconst (v := (3 : Int32)) C dX11_nextTo_51 rfl ?_
        obtain ⟨k23, ek23, hF⟩ := nam_e hF
        have hk23 : ∀ (y22 : Int32) (σ24 : St), k23 y22 σ24 = some (r, σ') → Rt G p l e (lvl 1) s m args below meth c 0 0 (MQ below (va_Qi (fun a b => a = r ∧ b = σ') (Wd G) (AG G)) args s 0 0 (AG G)) 4 60 [(2, vI x14)] [vI y22, vI ((a0 - a0 / (12 : Int32) * (12 : Int32)) + r20)] σ24 := by
          intro y22 σ24 hF
          subst ek23
          obtain ⟨r26, σ25, e27, hF⟩ := bd_e hF
          refine r_callS_i (as := [vI y22]) (st := [vI ((a0 - a0 / (12 : Int32) * (12 : Int32)) + r20)]) C dX11_nextTo_60 (s_X11_flag G l e27) t_5_195 t_5_196 t_1_14 t_5_197 m_X11_flag ⟨Nat.le_of_ble_eq_true rfl, Nat.le_of_ble_eq_true rfl⟩ ⟨rfl, rfl⟩ ⟨Nat.zero_le _, Nat.zero_le _⟩ rfl (Nat.le_of_ble_eq_true rfl) ?_
          refine r_isub C dX11_nextTo_63 ?_
          obtain ⟨x28, ex28, hF⟩ := nam_e hF
          refine r_topI ex28 ?_
          refine r_istore_n (ls2 := [(3, vI x28), (2, vI x14)]) C dX11_nextTo_64 3 rfl (by decide) rfl ?_
          refine r_iload_n C 1 2 dX11_nextTo_65 rfl rfl ?_
          refine r_i2l C dX11_nextTo_66 ?_
          refine r_lconst (v := (0 : Int64)) C dX11_nextTo_67 rfl ?_
          refine r_ldc2_w (v := (7 : Int64)) C dX11_nextTo_68 t_5_231 ?_
          obtain ⟨r30, σ29, e31, hF⟩ := bd_e hF
          refine r_callS_i (as := [vL (x14.toInt64), vL (0 : Int64), vL (7 : Int64)]) (st := []) C dX11_nextTo_71 (s_X11_in G l e31) t_5_153 t_5_154 t_1_14 t_5_155 m_X11_in ⟨Nat.le_of_ble_eq_true rfl, Nat.le_of_ble_eq_true rfl⟩ ⟨rfl, rfl⟩ ⟨Nat.zero_le _, Nat.zero_le _⟩ rfl (Nat.le_of_ble_eq_true rfl) ?_
          refine r_if_eq C 98 dX11_nextTo_74 (by decide)  (fun h36 => ?_) (fun h36 => ?_)
          · have hF := if_t h36 hF
            refine r_bipush (v := (-4 : Int32)) C dX11_nextTo_98 rfl ?_
            exact r_ireturn C dX11_nextTo_100 (rt_e hF)
          · have hF := if_f h36 hF
            refine r_iload_n C 0 3 dX11_nextTo_77 rfl rfl ?_
            refine r_i2l C dX11_nextTo_78 ?_
            refine r_lconst (v := (0 : Int64)) C dX11_nextTo_79 rfl ?_
            refine r_ldc2_w (v := (11 : Int64)) C dX11_nextTo_80 t_6_65 ?_
            obtain ⟨r33, σ32, e34, hF⟩ := bd_e hF
            refine r_callS_i (as := [vL (x28.toInt64), vL (0 : Int64), vL (11 : Int64)]) (st := []) C dX11_nextTo_83 (s_X11_in G l e34) t_5_153 t_5_154 t_1_14 t_5_155 m_X11_in ⟨Nat.le_of_ble_eq_true rfl, Nat.le_of_ble_eq_true rfl⟩ ⟨rfl, rfl⟩ ⟨Nat.zero_le _, Nat.zero_le _⟩ rfl (Nat.le_of_ble_eq_true rfl) ?_
            refine r_if_eq C 98 dX11_nextTo_86 (by decide)  (fun h35 => ?_) (fun h35 => ?_)
            · have hF := if_t h35 hF
              refine r_bipush (v := (-4 : Int32)) C dX11_nextTo_98 rfl ?_
              exact r_ireturn C dX11_nextTo_100 (rt_e hF)
            · have hF := if_f h35 hF
              refine r_bipush (v := (12 : Int32)) C dX11_nextTo_89 rfl ?_
              refine r_iload_n C 1 2 dX11_nextTo_91 rfl rfl ?_
              refine r_imul C dX11_nextTo_92 ?_
              refine r_iload_n C 0 3 dX11_nextTo_93 rfl rfl ?_
              refine r_iadd C dX11_nextTo_94 ?_
              refine r_goto C 100 dX11_nextTo_95 (by decide) ?_
              exact r_ireturn C dX11_nextTo_100 (rt_e hF)
        refine r_icmp_ne C 59 dX11_nextTo_52 (by decide)  (fun h37 => ?_) (fun h37 => ?_)
        · have hF := if_f h37 hF
          refine r_iconst (v := (0 : Int32)) C dX11_nextTo_59 rfl ?_
          refine r_drop (ls2 := [(2, vI x14)]) [1] rfl ?_
          exact hk23 _ _ hF
        · have hF := if_t h37 hF
          refine r_iconst (v := (1 : Int32)) C dX11_nextTo_55 rfl ?_
          refine r_goto C 60 dX11_nextTo_56 (by decide) ?_
          refine r_drop (ls2 := [(2, vI x14)]) [1] rfl ?_
          exact hk23 _ _ hF
      refine r_icmp_ne C 45 dX11_nextTo_38 (by decide)  (fun h38 => ?_) (fun h38 => ?_)
      · have hF := if_f h38 hF
        refine r_iconst (v := (0 : Int32)) C dX11_nextTo_45 rfl ?_
        refine r_drop (ls2 := [(1, vI a1), (2, vI x14)]) [2, 0] rfl ?_
        exact hk17 _ _ hF
      · have hF := if_t h38 hF
        refine r_iconst (v := (1 : Int32)) C dX11_nextTo_41 rfl ?_
        refine r_goto C 46 dX11_nextTo_42 (by decide) ?_
        refine r_drop (ls2 := [(1, vI a1), (2, vI x14)]) [2, 0] rfl ?_
        exact hk17 _ _ hF
    refine r_icmp_ne C 26 dX11_nextTo_19 (by decide)  (fun h39 => ?_) (fun h39 => ?_)
    · have hF := if_f h39 hF
      refine r_iconst (v := (0 : Int32)) C dX11_nextTo_26 rfl ?_
      exact hk9 _ _ hF
    · have hF := if_t h39 hF
      refine r_iconst (v := (1 : Int32)) C dX11_nextTo_22 rfl ?_
      refine r_goto C 27 dX11_nextTo_23 (by decide) ?_
      exact hk9 _ _ hF
  refine r_if_ne C 12 dX11_nextTo_5 (by decide)  (fun h40 => ?_) (fun h40 => ?_)
  · have hF := if_f h40 hF
    refine r_iconst (v := (0 : Int32)) C dX11_nextTo_12 rfl ?_
    exact hk3 _ _ hF
  · have hF := if_t h40 hF
    refine r_iconst (v := (1 : Int32)) C dX11_nextTo_8 rfl ?_
    refine r_goto C 13 dX11_nextTo_9 (by decide) ?_
    exact hk3 _ _ hF
def F_X11_isWall (a1 : Int32) (σ : St) : Option (Int32 × St) :=
  (if a1 = (-4 : Int32) then some ((1 : Int32), σ) else ck (inb a1 576) ((if (σ.1 (41, 0, 0) (a1.toNatClampNeg)) = (5 : Int32) then some ((1 : Int32), σ) else some ((0 : Int32), σ))))
set_option maxRecDepth 20000 in
set_option maxHeartbeats 4000000 in
theorem s_X11_isWall (G : Gx) (l : Launch) {a1 : Int32} {σ σ' : St} {r : Int32} (hF : F_X11_isWall a1 σ = some (r, σ')) : Sp G l yX11_isWall cX11_isWall 2 (some .boolean) (lvl 0) [vR (40, 0, 0), vI a1] σ (va_Qi (fun a b => a = r ∧ b = σ') (Wd G) (AG G)) := by
  refine Sp_of (own := RX11) (by decide) rfl (Nat.le_of_ble_eq_true rfl) ?_
  intro p e s m args below meth c C
  show Rt G p l e (lvl 0) s m args below meth c 0 0 (MQ below (va_Qi (fun a b => a = r ∧ b = σ') (Wd G) (AG G)) args s 0 0 (AG G)) 2 0 [(0, vR (40, 0, 0)), (1, vI a1)] [] σ
  unfold F_X11_isWall at hF
  refine r_iload_n C 1 1 dX11_isWall_0 rfl rfl ?_
  refine r_bipush (v := (-4 : Int32)) C dX11_isWall_1 rfl ?_
  refine r_icmp_eq C 16 dX11_isWall_3 (by decide)  (fun h3 => ?_) (fun h3 => ?_)
  · have hF := if_t h3 hF
    refine r_iconst (v := (1 : Int32)) C dX11_isWall_16 rfl ?_
    refine r_goto C 21 dX11_isWall_17 (by decide) ?_
    exact r_zreturn C dX11_isWall_21 (nar_z (Or.inr rfl)) (rt_e hF)
  · have hF := if_f h3 hF
    refine r_aload_n C 0 0 dX11_isWall_6 rfl rfl ?_
    refine r_getR (kf := 0) (d2 := (41, 0, 0)) C dX11_isWall_7 rfl rfl f_X11 (by decide) t_5_56 rfl rfl ?_
    refine r_iload_n C 1 1 dX11_isWall_10 rfl rfl ?_
    obtain ⟨h1, hF⟩ := ck_e hF
    refine r_iaload C (a1.toNatClampNeg) dX11_isWall_11 rfl h1 rfl ?_
    refine r_iconst (v := (5 : Int32)) C dX11_isWall_12 rfl ?_
    refine r_icmp_ne C 20 dX11_isWall_13 (by decide)  (fun h2 => ?_) (fun h2 => ?_)
    · have hF := if_f h2 hF
      refine r_iconst (v := (0 : Int32)) C dX11_isWall_20 rfl ?_
      exact r_zreturn C dX11_isWall_21 (nar_z (Or.inl rfl)) (rt_e hF)
    · have hF := if_t h2 hF
      refine r_iconst (v := (1 : Int32)) C dX11_isWall_16 rfl ?_
      refine r_goto C 21 dX11_isWall_17 (by decide) ?_
      exact r_zreturn C dX11_isWall_21 (nar_z (Or.inr rfl)) (rt_e hF)
def F_X11_draws  (σ : St) : Option (Int32 × St) :=
  ck (inb (175 : Int32) 576) (ck (inb (175 : Int32) 576) (nam (uI σ (41, 0, 0) 175 (((σ.1 (41, 0, 0) 175) * (1103515245 : Int32)) + (12345 : Int32))) fun σ3 => ck (inb (175 : Int32) 576) (some (((σ3.1 (41, 0, 0) 175) >>> ((16 : Int32) &&& 31)) &&& (3 : Int32), σ3))))
set_option maxRecDepth 20000 in
set_option maxHeartbeats 4000000 in
theorem s_X11_draws (G : Gx) (l : Launch)  {σ σ' : St} {r : Int32} (hF : F_X11_draws  σ = some (r, σ')) : Sp G l yX11_draws cX11_draws 1 (some .int) (lvl 0) [vR (40, 0, 0)] σ (va_Qi (fun a b => a = r ∧ b = σ') (Wd G) (AG G)) := by
  refine Sp_of (own := RX11) (by decide) rfl (Nat.le_of_ble_eq_true rfl) ?_
  intro p e s m args below meth c C
  show Rt G p l e (lvl 0) s m args below meth c 0 0 (MQ below (va_Qi (fun a b => a = r ∧ b = σ') (Wd G) (AG G)) args s 0 0 (AG G)) 1 0 [(0, vR (40, 0, 0))] [] σ
  unfold F_X11_draws at hF
  refine r_aload_n C 0 0 dX11_draws_0 rfl rfl ?_
  refine r_getR (kf := 0) (d2 := (41, 0, 0)) C dX11_draws_1 rfl rfl f_X11 (by decide) t_5_56 rfl rfl ?_
  refine r_sipush (v := (175 : Int32)) C dX11_draws_4 rfl ?_
  refine r_aload_n C 0 0 dX11_draws_7 rfl rfl ?_
  refine r_getR (kf := 0) (d2 := (41, 0, 0)) C dX11_draws_8 rfl rfl f_X11 (by decide) t_5_56 rfl rfl ?_
  refine r_sipush (v := (175 : Int32)) C dX11_draws_11 rfl ?_
  obtain ⟨h1, hF⟩ := ck_e hF
  refine r_iaload C 175 dX11_draws_14 rfl h1 rfl ?_
  refine r_ldc (v := (1103515245 : Int32)) C dX11_draws_15 t_6_61 ?_
  refine r_imul C dX11_draws_17 ?_
  refine r_sipush (v := (12345 : Int32)) C dX11_draws_18 rfl ?_
  refine r_iadd C dX11_draws_21 ?_
  obtain ⟨h2, hF⟩ := ck_e hF
  obtain ⟨σ3, eσ3, hF⟩ := nam_e hF
  refine r_iastore C 175 dX11_draws_22 rfl h2 rfl eσ3 ?_
  refine r_aload_n C 0 0 dX11_draws_23 rfl rfl ?_
  refine r_getR (kf := 0) (d2 := (41, 0, 0)) C dX11_draws_24 rfl rfl f_X11 (by decide) t_5_56 rfl rfl ?_
  refine r_sipush (v := (175 : Int32)) C dX11_draws_27 rfl ?_
  obtain ⟨h4, hF⟩ := ck_e hF
  refine r_iaload C 175 dX11_draws_30 rfl h4 rfl ?_
  refine r_bipush (v := (16 : Int32)) C dX11_draws_31 rfl ?_
  refine r_ishr C dX11_draws_33 ?_
  refine r_iconst (v := (3 : Int32)) C dX11_draws_34 rfl ?_
  refine r_iand C dX11_draws_35 ?_
  exact r_ireturn C dX11_draws_36 (rt_e hF)
def F_X11_thins (a1 : Int32) (a2 : Int32) (σ : St) : Option (Int32 × St) :=
  ck (inb (7 : Int32) 9) (ck (decide (¬ (σ.1 (43, 0, 0) 7) = 0)) ((if (a2 - a2 / (σ.1 (43, 0, 0) 7) * (σ.1 (43, 0, 0) 7)) = 0 then ck (inb (5 : Int32) 9) (nam (fun (y4 : Int32) (σ6 : St) => bd (F_X11_less a1 y4 σ6) fun r8 σ7 => some (r8, σ7)) fun k5 => (if a1 < (σ.1 (43, 0, 0) 5) then k5 (1 : Int32) σ else k5 (2 : Int32) σ)) else some ((0 : Int32), σ))))
set_option maxRecDepth 20000 in
set_option maxHeartbeats 4000000 in
theorem s_X11_thins (G : Gx) (l : Launch) {a1 : Int32} {a2 : Int32} {σ σ' : St} {r : Int32} (hF : F_X11_thins a1 a2 σ = some (r, σ')) : Sp G l yX11_thins cX11_thins 3 (some .int) (lvl 1) [vR (40, 0, 0), vI a1, vI a2] σ (va_Qi (fun a b => a = r ∧ b = σ') (Wd G) (AG G)) := by
  refine Sp_of (own := RX11) (by decide) rfl (Nat.le_of_ble_eq_true rfl) ?_
  intro p e s m args below meth c C
  show Rt G p l e (lvl 1) s m args below meth c 0 0 (MQ below (va_Qi (fun a b => a = r ∧ b = σ') (Wd G) (AG G)) args s 0 0 (AG G)) 3 0 [(0, vR (40, 0, 0)), (1, vI a1), (2, vI a2)] [] σ
  unfold F_X11_thins at hF
  refine r_iload_n C 2 2 dX11_thins_0 rfl rfl ?_
  refine r_aload_n C 0 0 dX11_thins_1 rfl rfl ?_
  refine r_getR (kf := 2) (d2 := (43, 0, 0)) C dX11_thins_2 rfl rfl f_X11 (by decide) t_5_58 rfl rfl ?_
  refine r_bipush (v := (7 : Int32)) C dX11_thins_5 rfl ?_
  obtain ⟨h1, hF⟩ := ck_e hF
  refine r_iaload C 7 dX11_thins_7 rfl h1 rfl ?_
  obtain ⟨h2, hF⟩ := ck_e hF
  refine r_irem C dX11_thins_8 (nz h2) ?_
  refine r_if_ne C 34 dX11_thins_9 (by decide)  (fun h11 => ?_) (fun h11 => ?_)
  · have hF := if_f h11 hF
    refine r_iconst (v := (0 : Int32)) C dX11_thins_34 rfl ?_
    exact r_ireturn C dX11_thins_35 (rt_e hF)
  · have hF := if_t h11 hF
    refine r_iload_n C 1 1 dX11_thins_12 rfl rfl ?_
    refine r_iload_n C 1 1 dX11_thins_13 rfl rfl ?_
    refine r_aload_n C 0 0 dX11_thins_14 rfl rfl ?_
    refine r_getR (kf := 2) (d2 := (43, 0, 0)) C dX11_thins_15 rfl rfl f_X11 (by decide) t_5_58 rfl rfl ?_
    refine r_iconst (v := (5 : Int32)) C dX11_thins_18 rfl ?_
    obtain ⟨h3, hF⟩ := ck_e hF
    refine r_iaload C 5 dX11_thins_19 rfl h3 rfl ?_
    obtain ⟨k5, ek5, hF⟩ := nam_e hF
    have hk5 : ∀ (y4 : Int32) (σ6 : St), k5 y4 σ6 = some (r, σ') → Rt G p l e (lvl 1) s m args below meth c 0 0 (MQ below (va_Qi (fun a b => a = r ∧ b = σ') (Wd G) (AG G)) args s 0 0 (AG G)) 3 28 [] [vI y4, vI a1] σ6 := by
      intro y4 σ6 hF
      subst ek5
      obtain ⟨r8, σ7, e9, hF⟩ := bd_e hF
      refine r_callS_i (as := [vI a1, vI y4]) (st := []) C dX11_thins_28 (s_X11_less G l e9) t_6_34 t_6_35 t_1_14 t_6_36 m_X11_less ⟨Nat.le_of_ble_eq_true rfl, Nat.le_of_ble_eq_true rfl⟩ ⟨rfl, rfl⟩ ⟨Nat.zero_le _, Nat.zero_le _⟩ rfl (Nat.le_of_ble_eq_true rfl) ?_
      refine r_goto C 35 dX11_thins_31 (by decide) ?_
      exact r_ireturn C dX11_thins_35 (rt_e hF)
    refine r_icmp_lt C 27 dX11_thins_20 (by decide)  (fun h10 => ?_) (fun h10 => ?_)
    · have hF := if_t h10 hF
      refine r_iconst (v := (1 : Int32)) C dX11_thins_27 rfl ?_
      refine r_drop (ls2 := []) [] rfl ?_
      exact hk5 _ _ hF
    · have hF := if_f h10 hF
      refine r_iconst (v := (2 : Int32)) C dX11_thins_23 rfl ?_
      refine r_goto C 28 dX11_thins_24 (by decide) ?_
      refine r_drop (ls2 := []) [] rfl ?_
      exact hk5 _ _ hF
def F_X11_hisses (a1 : Int32) (a2 : Int32) (σ : St) : Option (Int32 × St) :=
  ck (inb (6 : Int32) 9) (ck (decide (¬ (σ.1 (43, 0, 0) 6) = 0)) (bd (F_X11_less a1 ((1 : Int32) + (a2 / (σ.1 (43, 0, 0) 6))) σ) fun r4 σ3 => some (r4, σ3)))
set_option maxRecDepth 20000 in
set_option maxHeartbeats 4000000 in
theorem s_X11_hisses (G : Gx) (l : Launch) {a1 : Int32} {a2 : Int32} {σ σ' : St} {r : Int32} (hF : F_X11_hisses a1 a2 σ = some (r, σ')) : Sp G l yX11_hisses cX11_hisses 3 (some .int) (lvl 1) [vR (40, 0, 0), vI a1, vI a2] σ (va_Qi (fun a b => a = r ∧ b = σ') (Wd G) (AG G)) := by
  refine Sp_of (own := RX11) (by decide) rfl (Nat.le_of_ble_eq_true rfl) ?_
  intro p e s m args below meth c C
  show Rt G p l e (lvl 1) s m args below meth c 0 0 (MQ below (va_Qi (fun a b => a = r ∧ b = σ') (Wd G) (AG G)) args s 0 0 (AG G)) 3 0 [(0, vR (40, 0, 0)), (1, vI a1), (2, vI a2)] [] σ
  unfold F_X11_hisses at hF
  refine r_iload_n C 1 1 dX11_hisses_0 rfl rfl ?_
  refine r_iconst (v := (1 : Int32)) C dX11_hisses_1 rfl ?_
  refine r_iload_n C 2 2 dX11_hisses_2 rfl rfl ?_
  refine r_aload_n C 0 0 dX11_hisses_3 rfl rfl ?_
  refine r_getR (kf := 2) (d2 := (43, 0, 0)) C dX11_hisses_4 rfl rfl f_X11 (by decide) t_5_58 rfl rfl ?_
  refine r_bipush (v := (6 : Int32)) C dX11_hisses_7 rfl ?_
  obtain ⟨h1, hF⟩ := ck_e hF
  refine r_iaload C 6 dX11_hisses_9 rfl h1 rfl ?_
  obtain ⟨h2, hF⟩ := ck_e hF
  refine r_idiv C dX11_hisses_10 (nz h2) ?_
  refine r_iadd C dX11_hisses_11 ?_
  obtain ⟨r4, σ3, e5, hF⟩ := bd_e hF
  refine r_callS_i (as := [vI a1, vI ((1 : Int32) + (a2 / (σ.1 (43, 0, 0) 6)))]) (st := []) C dX11_hisses_12 (s_X11_less G l e5) t_6_34 t_6_35 t_1_14 t_6_36 m_X11_less ⟨Nat.le_of_ble_eq_true rfl, Nat.le_of_ble_eq_true rfl⟩ ⟨rfl, rfl⟩ ⟨Nat.zero_le _, Nat.zero_le _⟩ rfl (Nat.le_of_ble_eq_true rfl) ?_
  exact r_ireturn C dX11_hisses_15 (rt_e hF)
def F_X11_ends (a1 : Int32) (a2 : Int32) (σ : St) : Option (Unit × St) :=
  ck (inb ((132 : Int32) + a1) 576) (nam (uI σ (41, 0, 0) (((132 : Int32) + a1).toNatClampNeg) a2) fun σ2 => ck (inb (168 : Int32) 576) (ck (inb ((144 : Int32) + a1) 576) (nam (uI σ2 (41, 0, 0) (((144 : Int32) + a1).toNatClampNeg) (σ2.1 (41, 0, 0) 168)) fun σ5 => some ((), σ5))))
set_option maxRecDepth 20000 in
set_option maxHeartbeats 4000000 in
theorem s_X11_ends (G : Gx) (l : Launch) {a1 : Int32} {a2 : Int32} {σ σ' : St}  (hF : F_X11_ends a1 a2 σ = some ((), σ')) : Sp G l yX11_ends cX11_ends 3 none (lvl 0) [vR (40, 0, 0), vI a1, vI a2] σ (va_Qv (fun b => b = σ') (Wd G) (AG G)) := by
  refine Sp_of (own := RX11) (by decide) rfl (Nat.le_of_ble_eq_true rfl) ?_
  intro p e s m args below meth c C
  show Rt G p l e (lvl 0) s m args below meth c 0 0 (MQ below (va_Qv (fun b => b = σ') (Wd G) (AG G)) args s 0 0 (AG G)) 3 0 [(0, vR (40, 0, 0)), (1, vI a1), (2, vI a2)] [] σ
  unfold F_X11_ends at hF
  refine r_aload_n C 0 0 dX11_ends_0 rfl rfl ?_
  refine r_getR (kf := 0) (d2 := (41, 0, 0)) C dX11_ends_1 rfl rfl f_X11 (by decide) t_5_56 rfl rfl ?_
  refine r_sipush (v := (132 : Int32)) C dX11_ends_4 rfl ?_
  refine r_iload_n C 1 1 dX11_ends_7 rfl rfl ?_
  refine r_iadd C dX11_ends_8 ?_
  refine r_iload_n C 2 2 dX11_ends_9 rfl rfl ?_
  obtain ⟨h1, hF⟩ := ck_e hF
  obtain ⟨σ2, eσ2, hF⟩ := nam_e hF
  refine r_iastore C (((132 : Int32) + a1).toNatClampNeg) dX11_ends_10 rfl h1 rfl eσ2 ?_
  refine r_aload_n C 0 0 dX11_ends_11 rfl rfl ?_
  refine r_getR (kf := 0) (d2 := (41, 0, 0)) C dX11_ends_12 rfl rfl f_X11 (by decide) t_5_56 rfl rfl ?_
  refine r_sipush (v := (144 : Int32)) C dX11_ends_15 rfl ?_
  refine r_iload_n C 1 1 dX11_ends_18 rfl rfl ?_
  refine r_iadd C dX11_ends_19 ?_
  refine r_aload_n C 0 0 dX11_ends_20 rfl rfl ?_
  refine r_getR (kf := 0) (d2 := (41, 0, 0)) C dX11_ends_21 rfl rfl f_X11 (by decide) t_5_56 rfl rfl ?_
  refine r_sipush (v := (168 : Int32)) C dX11_ends_24 rfl ?_
  obtain ⟨h3, hF⟩ := ck_e hF
  refine r_iaload C 168 dX11_ends_27 rfl h3 rfl ?_
  obtain ⟨h4, hF⟩ := ck_e hF
  obtain ⟨σ5, eσ5, hF⟩ := nam_e hF
  refine r_iastore C (((144 : Int32) + a1).toNatClampNeg) dX11_ends_28 rfl h4 rfl eσ5 ?_
  exact r_return C dX11_ends_29 (rv_e hF)
def F_X11_loses (a1 : Int32) (a2 : Int32) (σ : St) : Option (Unit × St) :=
  ck (inb ((108 : Int32) + a1) 576) (ck (inb ((108 : Int32) + a1) 576) (nam (uI σ (41, 0, 0) (((108 : Int32) + a1).toNatClampNeg) ((σ.1 (41, 0, 0) (((108 : Int32) + a1).toNatClampNeg)) - a2)) fun σ3 => ck (inb (171 : Int32) 576) (ck (inb (171 : Int32) 576) (nam (uI σ3 (41, 0, 0) 171 ((σ3.1 (41, 0, 0) 171) + a2)) fun σ6 => ck (inb ((108 : Int32) + a1) 576) ((if (σ6.1 (41, 0, 0) (((108 : Int32) + a1).toNatClampNeg)) = 0 then bd (F_X11_ends a1 (1 : Int32) σ6) fun _ σ8 => some ((), σ8) else some ((), σ6)))))))
set_option maxRecDepth 20000 in
set_option maxHeartbeats 4000000 in
theorem s_X11_loses (G : Gx) (l : Launch) {a1 : Int32} {a2 : Int32} {σ σ' : St}  (hF : F_X11_loses a1 a2 σ = some ((), σ')) : Sp G l yX11_loses cX11_loses 3 none (lvl 1) [vR (40, 0, 0), vI a1, vI a2] σ (va_Qv (fun b => b = σ') (Wd G) (AG G)) := by
  refine Sp_of (own := RX11) (by decide) rfl (Nat.le_of_ble_eq_true rfl) ?_
  intro p e s m args below meth c C
  show Rt G p l e (lvl 1) s m args below meth c 0 0 (MQ below (va_Qv (fun b => b = σ') (Wd G) (AG G)) args s 0 0 (AG G)) 3 0 [(0, vR (40, 0, 0)), (1, vI a1), (2, vI a2)] [] σ
  unfold F_X11_loses at hF
  refine r_aload_n C 0 0 dX11_loses_0 rfl rfl ?_
  refine r_getR (kf := 0) (d2 := (41, 0, 0)) C dX11_loses_1 rfl rfl f_X11 (by decide) t_5_56 rfl rfl ?_
  refine r_bipush (v := (108 : Int32)) C dX11_loses_4 rfl ?_
  refine r_iload_n C 1 1 dX11_loses_6 rfl rfl ?_
  refine r_iadd C dX11_loses_7 ?_
  refine r_dup2_ri C dX11_loses_8 ?_
  obtain ⟨h1, hF⟩ := ck_e hF
  refine r_iaload C (((108 : Int32) + a1).toNatClampNeg) dX11_loses_9 rfl h1 rfl ?_
  refine r_iload_n C 2 2 dX11_loses_10 rfl rfl ?_
  refine r_isub C dX11_loses_11 ?_
  obtain ⟨h2, hF⟩ := ck_e hF
  obtain ⟨σ3, eσ3, hF⟩ := nam_e hF
  refine r_iastore C (((108 : Int32) + a1).toNatClampNeg) dX11_loses_12 rfl h2 rfl eσ3 ?_
  refine r_aload_n C 0 0 dX11_loses_13 rfl rfl ?_
  refine r_getR (kf := 0) (d2 := (41, 0, 0)) C dX11_loses_14 rfl rfl f_X11 (by decide) t_5_56 rfl rfl ?_
  refine r_sipush (v := (171 : Int32)) C dX11_loses_17 rfl ?_
  refine r_dup2_ri C dX11_loses_20 ?_
  obtain ⟨h4, hF⟩ := ck_e hF
  refine r_iaload C 171 dX11_loses_21 rfl h4 rfl ?_
  refine r_iload_n C 2 2 dX11_loses_22 rfl rfl ?_
  refine r_iadd C dX11_loses_23 ?_
  obtain ⟨h5, hF⟩ := ck_e hF
  obtain ⟨σ6, eσ6, hF⟩ := nam_e hF
  refine r_iastore C 171 dX11_loses_24 rfl h5 rfl eσ6 ?_
  refine r_aload_n C 0 0 dX11_loses_25 rfl rfl ?_
  refine r_getR (kf := 0) (d2 := (41, 0, 0)) C dX11_loses_26 rfl rfl f_X11 (by decide) t_5_56 rfl rfl ?_
  refine r_bipush (v := (108 : Int32)) C dX11_loses_29 rfl ?_
  refine r_iload_n C 1 1 dX11_loses_31 rfl rfl ?_
  refine r_iadd C dX11_loses_32 ?_
  obtain ⟨h7, hF⟩ := ck_e hF
  refine r_iaload C (((108 : Int32) + a1).toNatClampNeg) dX11_loses_33 rfl h7 rfl ?_
  refine r_if_ne C 43 dX11_loses_34 (by decide)  (fun h10 => ?_) (fun h10 => ?_)
  · have hF := if_f h10 hF
    exact r_return C dX11_loses_43 (rv_e hF)
  · have hF := if_t h10 hF
    refine r_aload_n C 0 0 dX11_loses_37 rfl rfl ?_
    refine r_iload_n C 1 1 dX11_loses_38 rfl rfl ?_
    refine r_iconst (v := (1 : Int32)) C dX11_loses_39 rfl ?_
    obtain ⟨⟨⟩, σ8, e9, hF⟩ := bd_e hF
    refine r_callV_v (as := [vI a1, vI (1 : Int32)]) (st := []) C dX11_loses_40 (s_X11_ends G l e9) rfl rfl rfl t_6_41 t_6_43 t_s_39 t_1_14 t_6_44 m_X11_ends ⟨Nat.le_of_ble_eq_true rfl, Nat.le_of_ble_eq_true rfl⟩ ⟨rfl, rfl⟩ ⟨Nat.zero_le _, Nat.zero_le _⟩ rfl (Nat.le_of_ble_eq_true rfl) ?_
    exact r_return C dX11_loses_43 (rv_e hF)
def F_X11_isTooth (a1 : Int32) (a2 : Int32) (σ : St) : Option (Int32 × St) :=
  ck (inb a1 576) ((if (4 : Int32) ≤ (σ.1 (41, 0, 0) (a1.toNatClampNeg)) then some ((0 : Int32), σ) else ck (inb (2 : Int32) 9) (ck (inb (3 : Int32) 9) (bd (F_X11_in (a2.toInt64) ((σ.1 (43, 0, 0) 2).toInt64) ((σ.1 (43, 0, 0) 3).toInt64) σ) fun r5 σ4 => (if r5 = 0 then some ((0 : Int32), σ4) else some ((1 : Int32), σ4))))))
set_option maxRecDepth 20000 in
set_option maxHeartbeats 4000000 in
theorem s_X11_isTooth (G : Gx) (l : Launch) {a1 : Int32} {a2 : Int32} {σ σ' : St} {r : Int32} (hF : F_X11_isTooth a1 a2 σ = some (r, σ')) : Sp G l yX11_isTooth cX11_isTooth 3 (some .boolean) (lvl 1) [vR (40, 0, 0), vI a1, vI a2] σ (va_Qi (fun a b => a = r ∧ b = σ') (Wd G) (AG G)) := by
  refine Sp_of (own := RX11) (by decide) rfl (Nat.le_of_ble_eq_true rfl) ?_
  intro p e s m args below meth c C
  show Rt G p l e (lvl 1) s m args below meth c 0 0 (MQ below (va_Qi (fun a b => a = r ∧ b = σ') (Wd G) (AG G)) args s 0 0 (AG G)) 3 0 [(0, vR (40, 0, 0)), (1, vI a1), (2, vI a2)] [] σ
  unfold F_X11_isTooth at hF
  refine r_aload_n C 0 0 dX11_isTooth_0 rfl rfl ?_
  refine r_getR (kf := 0) (d2 := (41, 0, 0)) C dX11_isTooth_1 rfl rfl f_X11 (by decide) t_5_56 rfl rfl ?_
  refine r_iload_n C 1 1 dX11_isTooth_4 rfl rfl ?_
  obtain ⟨h1, hF⟩ := ck_e hF
  refine r_iaload C (a1.toNatClampNeg) dX11_isTooth_5 rfl h1 rfl ?_
  refine r_iconst (v := (4 : Int32)) C dX11_isTooth_6 rfl ?_
  refine r_icmp_ge C 36 dX11_isTooth_7 (by decide)  (fun h8 => ?_) (fun h8 => ?_)
  · have hF := if_t h8 hF
    refine r_iconst (v := (0 : Int32)) C dX11_isTooth_36 rfl ?_
    exact r_zreturn C dX11_isTooth_37 (nar_z (Or.inl rfl)) (rt_e hF)
  · have hF := if_f h8 hF
    refine r_iload_n C 2 2 dX11_isTooth_10 rfl rfl ?_
    refine r_i2l C dX11_isTooth_11 ?_
    refine r_aload_n C 0 0 dX11_isTooth_12 rfl rfl ?_
    refine r_getR (kf := 2) (d2 := (43, 0, 0)) C dX11_isTooth_13 rfl rfl f_X11 (by decide) t_5_58 rfl rfl ?_
    refine r_iconst (v := (2 : Int32)) C dX11_isTooth_16 rfl ?_
    obtain ⟨h2, hF⟩ := ck_e hF
    refine r_iaload C 2 dX11_isTooth_17 rfl h2 rfl ?_
    refine r_i2l C dX11_isTooth_18 ?_
    refine r_aload_n C 0 0 dX11_isTooth_19 rfl rfl ?_
    refine r_getR (kf := 2) (d2 := (43, 0, 0)) C dX11_isTooth_20 rfl rfl f_X11 (by decide) t_5_58 rfl rfl ?_
    refine r_iconst (v := (3 : Int32)) C dX11_isTooth_23 rfl ?_
    obtain ⟨h3, hF⟩ := ck_e hF
    refine r_iaload C 3 dX11_isTooth_24 rfl h3 rfl ?_
    refine r_i2l C dX11_isTooth_25 ?_
    obtain ⟨r5, σ4, e6, hF⟩ := bd_e hF
    refine r_callS_i (as := [vL (a2.toInt64), vL ((σ.1 (43, 0, 0) 2).toInt64), vL ((σ.1 (43, 0, 0) 3).toInt64)]) (st := []) C dX11_isTooth_26 (s_X11_in G l e6) t_5_153 t_5_154 t_1_14 t_5_155 m_X11_in ⟨Nat.le_of_ble_eq_true rfl, Nat.le_of_ble_eq_true rfl⟩ ⟨rfl, rfl⟩ ⟨Nat.zero_le _, Nat.zero_le _⟩ rfl (Nat.le_of_ble_eq_true rfl) ?_
    refine r_if_eq C 36 dX11_isTooth_29 (by decide)  (fun h7 => ?_) (fun h7 => ?_)
    · have hF := if_t h7 hF
      refine r_iconst (v := (0 : Int32)) C dX11_isTooth_36 rfl ?_
      exact r_zreturn C dX11_isTooth_37 (nar_z (Or.inl rfl)) (rt_e hF)
    · have hF := if_f h7 hF
      refine r_iconst (v := (1 : Int32)) C dX11_isTooth_32 rfl ?_
      refine r_goto C 37 dX11_isTooth_33 (by decide) ?_
      exact r_zreturn C dX11_isTooth_37 (nar_z (Or.inr rfl)) (rt_e hF)
def F_X11_goesOn (a1 : Int32) (σ : St) : Option (Unit × St) :=
  ck (inb ((96 : Int32) + a1) 576) (nam (σ.1 (41, 0, 0) (((96 : Int32) + a1).toNatClampNeg)) fun x2 => ck (inb ((108 : Int32) + a1) 576) (nam (σ.1 (41, 0, 0) (((108 : Int32) + a1).toNatClampNeg)) fun x4 => bd (F_X11_isTooth x2 x4 σ) fun r6 σ5 => nam (fun (y8 : Int32) (σ10 : St) => bd (F_X11_nextTo x2 y8 σ10) fun r12 σ11 => bd (F_X11_isWall r12 σ11) fun r15 σ14 => (if r15 = 0 then bd (F_X11_inCell r12 a1 σ14) fun r18 σ17 => ck (inb ((96 : Int32) + a1) 576) (nam (uI σ17 (41, 0, 0) (((96 : Int32) + a1).toNatClampNeg) r12) fun σ21 => ck (inb ((120 : Int32) + a1) 576) (nam (uI σ21 (41, 0, 0) (((120 : Int32) + a1).toNatClampNeg) y8) fun σ23 => ck (inb r12 576) ((if (σ23.1 (41, 0, 0) (r12.toNatClampNeg)) = (6 : Int32) then ck (inb (172 : Int32) 576) (ck (inb (172 : Int32) 576) (nam (uI σ23 (41, 0, 0) 172 ((σ23.1 (41, 0, 0) 172) + x4)) fun σ35 => bd (F_X11_ends a1 (2 : Int32) σ35) fun _ σ36 => some ((), σ36))) else (if r18 = (-4 : Int32) then some ((), σ23) else ck (inb ((108 : Int32) + r18) 576) (ck (inb ((108 : Int32) + r18) 576) (nam (uI σ23 (41, 0, 0) (((108 : Int32) + r18).toNatClampNeg) ((σ23.1 (41, 0, 0) (((108 : Int32) + r18).toNatClampNeg)) + x4)) fun σ27 => ck (inb ((156 : Int32) + a1) 576) (nam (uI σ27 (41, 0, 0) (((156 : Int32) + a1).toNatClampNeg) r18) fun σ29 => bd (F_X11_ends a1 (4 : Int32) σ29) fun _ σ30 => some ((), σ30))))))))) else ck (decide (¬ (4 : Int32) = 0)) (ck (inb ((120 : Int32) + a1) 576) (nam (uI σ14 (41, 0, 0) (((120 : Int32) + a1).toNatClampNeg) ((y8 + (1 : Int32)) - (y8 + (1 : Int32)) / (4 : Int32) * (4 : Int32))) fun σ41 => some ((), σ41))))) fun k9 => (if r6 = 0 then ck (inb (8 : Int32) 9) ((if (σ5.1 (43, 0, 0) 8) < x4 then ck (inb ((120 : Int32) + a1) 576) (k9 (σ5.1 (41, 0, 0) (((120 : Int32) + a1).toNatClampNeg)) σ5) else ck (inb x2 576) ((if (σ5.1 (41, 0, 0) (x2.toNatClampNeg)) < (4 : Int32) then ck (inb ((120 : Int32) + a1) 576) (k9 (σ5.1 (41, 0, 0) (((120 : Int32) + a1).toNatClampNeg)) σ5) else bd (F_X11_draws  σ5) fun r48 σ47 => k9 r48 σ47)))) else ck (inb x2 576) (k9 (σ5.1 (41, 0, 0) (x2.toNatClampNeg)) σ5))))
set_option maxRecDepth 20000 in
set_option maxHeartbeats 4000000 in
theorem s_X11_goesOn (G : Gx) (l : Launch) {a1 : Int32} {σ σ' : St}  (hF : F_X11_goesOn a1 σ = some ((), σ')) : Sp G l yX11_goesOn cX11_goesOn 7 none (lvl 2) [vR (40, 0, 0), vI a1] σ (va_Qv (fun b => b = σ') (Wd G) (AG G)) := by
  refine Sp_of (own := RX11) (by decide) rfl (Nat.le_of_ble_eq_true rfl) ?_
  intro p e s m args below meth c C
  show Rt G p l e (lvl 2) s m args below meth c 0 0 (MQ below (va_Qv (fun b => b = σ') (Wd G) (AG G)) args s 0 0 (AG G)) 7 0 [(0, vR (40, 0, 0)), (1, vI a1)] [] σ
  unfold F_X11_goesOn at hF
  refine r_aload_n C 0 0 dX11_goesOn_0 rfl rfl ?_
  refine r_getR (kf := 0) (d2 := (41, 0, 0)) C dX11_goesOn_1 rfl rfl f_X11 (by decide) t_5_56 rfl rfl ?_
  refine r_bipush (v := (96 : Int32)) C dX11_goesOn_4 rfl ?_
  refine r_iload_n C 1 1 dX11_goesOn_6 rfl rfl ?_
  refine r_iadd C dX11_goesOn_7 ?_
  obtain ⟨h1, hF⟩ := ck_e hF
  refine r_iaload C (((96 : Int32) + a1).toNatClampNeg) dX11_goesOn_8 rfl h1 rfl ?_
  obtain ⟨x2, ex2, hF⟩ := nam_e hF
  refine r_topI ex2 ?_
  refine r_istore_n (ls2 := [(2, vI x2), (0, vR (40, 0, 0)), (1, vI a1)]) C dX11_goesOn_9 2 rfl (by decide) rfl ?_
  refine r_aload_n C 1 0 dX11_goesOn_10 rfl rfl ?_
  refine r_getR (kf := 0) (d2 := (41, 0, 0)) C dX11_goesOn_11 rfl rfl f_X11 (by decide) t_5_56 rfl rfl ?_
  refine r_bipush (v := (108 : Int32)) C dX11_goesOn_14 rfl ?_
  refine r_iload_n C 2 1 dX11_goesOn_16 rfl rfl ?_
  refine r_iadd C dX11_goesOn_17 ?_
  obtain ⟨h3, hF⟩ := ck_e hF
  refine r_iaload C (((108 : Int32) + a1).toNatClampNeg) dX11_goesOn_18 rfl h3 rfl ?_
  obtain ⟨x4, ex4, hF⟩ := nam_e hF
  refine r_topI ex4 ?_
  refine r_istore_n (ls2 := [(3, vI x4), (2, vI x2), (0, vR (40, 0, 0)), (1, vI a1)]) C dX11_goesOn_19 3 rfl (by decide) rfl ?_
  refine r_aload_n C 2 0 dX11_goesOn_20 rfl rfl ?_
  refine r_iload_n C 1 2 dX11_goesOn_21 rfl rfl ?_
  refine r_iload_n C 0 3 dX11_goesOn_22 rfl rfl ?_
  obtain ⟨r6, σ5, e7, hF⟩ := bd_e hF
  refine r_callV_i (as := [vI x2, vI x4]) (st := []) C dX11_goesOn_23 (s_X11_isTooth G l e7) rfl rfl rfl t_6_53 t_6_55 t_s_42 t_1_14 t_6_56 m_X11_isTooth ⟨Nat.le_of_ble_eq_true rfl, Nat.le_of_ble_eq_true rfl⟩ ⟨rfl, rfl⟩ ⟨Nat.zero_le _, Nat.zero_le _⟩ rfl (Nat.le_of_ble_eq_true rfl) ?_
  obtain ⟨k9, ek9, hF⟩ := nam_e hF
  have hk9 : ∀ (y8 : Int32) (σ10 : St), k9 y8 σ10 = some ((), σ') → Rt G p l e (lvl 2) s m args below meth c 0 0 (MQ below (va_Qv (fun b => b = σ') (Wd G) (AG G)) args s 0 0 (AG G)) 7 75 [(0, vR (40, 0, 0)), (1, vI a1), (2, vI x2), (3, vI x4)] [vI y8] σ10 := by
    intro y8 σ10 hF
    subst ek9
    refine r_istore (ls2 := [(4, vI y8), (0, vR (40, 0, 0)), (1, vI a1), (2, vI x2), (3, vI x4)]) C dX11_goesOn_75 (by decide) rfl ?_
    refine r_iload_n C 3 2 dX11_goesOn_77 rfl rfl ?_
    refine r_iload C 0 dX11_goesOn_78 rfl ?_
    obtain ⟨r12, σ11, e13, hF⟩ := bd_e hF
    refine r_callS_i (as := [vI x2, vI y8]) (st := []) C dX11_goesOn_80 (s_X11_nextTo G l e13) t_6_62 t_6_63 t_1_14 t_6_64 m_X11_nextTo ⟨Nat.le_of_ble_eq_true rfl, Nat.le_of_ble_eq_true rfl⟩ ⟨rfl, rfl⟩ ⟨Nat.zero_le _, Nat.zero_le _⟩ rfl (Nat.le_of_ble_eq_true rfl) ?_
    refine r_istore (ls2 := [(5, vI r12), (4, vI y8), (0, vR (40, 0, 0)), (1, vI a1), (2, vI x2), (3, vI x4)]) C dX11_goesOn_83 (by decide) rfl ?_
    refine r_aload_n C 2 0 dX11_goesOn_85 rfl rfl ?_
    refine r_iload C 0 dX11_goesOn_86 rfl ?_
    obtain ⟨r15, σ14, e16, hF⟩ := bd_e hF
    refine r_callV_i (as := [vI r12]) (st := []) C dX11_goesOn_88 (s_X11_isWall G l e16) rfl rfl rfl t_6_66 t_6_68 t_s_44 t_1_14 t_6_69 m_X11_isWall ⟨Nat.le_of_ble_eq_true rfl, Nat.le_of_ble_eq_true rfl⟩ ⟨rfl, rfl⟩ ⟨Nat.zero_le _, Nat.zero_le _⟩ rfl (Nat.le_of_ble_eq_true rfl) ?_
    refine r_if_eq C 110 dX11_goesOn_91 (by decide)  (fun h42 => ?_) (fun h42 => ?_)
    · have hF := if_t h42 hF
      refine r_aload_n C 2 0 dX11_goesOn_110 rfl rfl ?_
      refine r_iload C 0 dX11_goesOn_111 rfl ?_
      refine r_iload_n C 3 1 dX11_goesOn_113 rfl rfl ?_
      obtain ⟨r18, σ17, e19, hF⟩ := bd_e hF
      refine r_callV_i (as := [vI r12, vI a1]) (st := []) C dX11_goesOn_114 (s_X11_inCell G l e19) rfl rfl rfl t_5_235 t_5_237 t_s_33 t_1_14 t_5_238 m_X11_inCell ⟨Nat.le_of_ble_eq_true rfl, Nat.le_of_ble_eq_true rfl⟩ ⟨rfl, rfl⟩ ⟨Nat.zero_le _, Nat.zero_le _⟩ rfl (Nat.le_of_ble_eq_true rfl) ?_
      refine r_istore (ls2 := [(6, vI r18), (5, vI r12), (4, vI y8), (0, vR (40, 0, 0)), (1, vI a1), (2, vI x2), (3, vI x4)]) C dX11_goesOn_117 (by decide) rfl ?_
      refine r_aload_n C 3 0 dX11_goesOn_119 rfl rfl ?_
      refine r_getR (kf := 0) (d2 := (41, 0, 0)) C dX11_goesOn_120 rfl rfl f_X11 (by decide) t_5_56 rfl rfl ?_
      refine r_bipush (v := (96 : Int32)) C dX11_goesOn_123 rfl ?_
      refine r_iload_n C 4 1 dX11_goesOn_125 rfl rfl ?_
      refine r_iadd C dX11_goesOn_126 ?_
      refine r_iload C 1 dX11_goesOn_127 rfl ?_
      obtain ⟨h20, hF⟩ := ck_e hF
      obtain ⟨σ21, eσ21, hF⟩ := nam_e hF
      refine r_iastore C (((96 : Int32) + a1).toNatClampNeg) dX11_goesOn_129 rfl h20 rfl eσ21 ?_
      refine r_aload_n C 3 0 dX11_goesOn_130 rfl rfl ?_
      refine r_getR (kf := 0) (d2 := (41, 0, 0)) C dX11_goesOn_131 rfl rfl f_X11 (by decide) t_5_56 rfl rfl ?_
      refine r_bipush (v := (120 : Int32)) C dX11_goesOn_134 rfl ?_
      refine r_iload_n C 4 1 dX11_goesOn_136 rfl rfl ?_
      refine r_iadd C dX11_goesOn_137 ?_
      refine r_iload C 2 dX11_goesOn_138 rfl ?_
      obtain ⟨h22, hF⟩ := ck_e hF
      obtain ⟨σ23, eσ23, hF⟩ := nam_e hF
      refine r_iastore C (((120 : Int32) + a1).toNatClampNeg) dX11_goesOn_140 rfl h22 rfl eσ23 ?_
      refine r_aload_n C 3 0 dX11_goesOn_141 rfl rfl ?_
      refine r_getR (kf := 0) (d2 := (41, 0, 0)) C dX11_goesOn_142 rfl rfl f_X11 (by decide) t_5_56 rfl rfl ?_
      refine r_iload C 1 dX11_goesOn_145 rfl ?_
      obtain ⟨h24, hF⟩ := ck_e hF
      refine r_iaload C (r12.toNatClampNeg) dX11_goesOn_147 rfl h24 rfl ?_
      refine r_bipush (v := (6 : Int32)) C dX11_goesOn_148 rfl ?_
      refine r_icmp_ne C 174 dX11_goesOn_150 (by decide)  (fun h38 => ?_) (fun h38 => ?_)
      · have hF := if_f h38 hF
        refine r_iload C 0 dX11_goesOn_174 rfl ?_
        refine r_bipush (v := (-4 : Int32)) C dX11_goesOn_176 rfl ?_
        refine r_icmp_eq C 213 dX11_goesOn_178 (by decide)  (fun h32 => ?_) (fun h32 => ?_)
        · have hF := if_t h32 hF
          exact r_return C dX11_goesOn_213 (rv_e hF)
        · have hF := if_f h32 hF
          refine r_aload_n C 3 0 dX11_goesOn_181 rfl rfl ?_
          refine r_getR (kf := 0) (d2 := (41, 0, 0)) C dX11_goesOn_182 rfl rfl f_X11 (by decide) t_5_56 rfl rfl ?_
          refine r_bipush (v := (108 : Int32)) C dX11_goesOn_185 rfl ?_
          refine r_iload C 0 dX11_goesOn_187 rfl ?_
          refine r_iadd C dX11_goesOn_189 ?_
          refine r_dup2_ri C dX11_goesOn_190 ?_
          obtain ⟨h25, hF⟩ := ck_e hF
          refine r_iaload C (((108 : Int32) + r18).toNatClampNeg) dX11_goesOn_191 rfl h25 rfl ?_
          refine r_iload_n C 6 3 dX11_goesOn_192 rfl rfl ?_
          refine r_iadd C dX11_goesOn_193 ?_
          obtain ⟨h26, hF⟩ := ck_e hF
          obtain ⟨σ27, eσ27, hF⟩ := nam_e hF
          refine r_iastore C (((108 : Int32) + r18).toNatClampNeg) dX11_goesOn_194 rfl h26 rfl eσ27 ?_
          refine r_aload_n C 3 0 dX11_goesOn_195 rfl rfl ?_
          refine r_getR (kf := 0) (d2 := (41, 0, 0)) C dX11_goesOn_196 rfl rfl f_X11 (by decide) t_5_56 rfl rfl ?_
          refine r_sipush (v := (156 : Int32)) C dX11_goesOn_199 rfl ?_
          refine r_iload_n C 4 1 dX11_goesOn_202 rfl rfl ?_
          refine r_iadd C dX11_goesOn_203 ?_
          refine r_iload C 0 dX11_goesOn_204 rfl ?_
          obtain ⟨h28, hF⟩ := ck_e hF
          obtain ⟨σ29, eσ29, hF⟩ := nam_e hF
          refine r_iastore C (((156 : Int32) + a1).toNatClampNeg) dX11_goesOn_206 rfl h28 rfl eσ29 ?_
          refine r_aload_n C 3 0 dX11_goesOn_207 rfl rfl ?_
          refine r_iload_n C 4 1 dX11_goesOn_208 rfl rfl ?_
          refine r_iconst (v := (4 : Int32)) C dX11_goesOn_209 rfl ?_
          obtain ⟨⟨⟩, σ30, e31, hF⟩ := bd_e hF
          refine r_callV_v (as := [vI a1, vI (4 : Int32)]) (st := []) C dX11_goesOn_210 (s_X11_ends G l e31) rfl rfl rfl t_6_41 t_6_43 t_s_39 t_1_14 t_6_44 m_X11_ends ⟨Nat.le_of_ble_eq_true rfl, Nat.le_of_ble_eq_true rfl⟩ ⟨rfl, rfl⟩ ⟨Nat.zero_le _, Nat.zero_le _⟩ rfl (Nat.le_of_ble_eq_true rfl) ?_
          exact r_return C dX11_goesOn_213 (rv_e hF)
      · have hF := if_t h38 hF
        refine r_aload_n C 3 0 dX11_goesOn_153 rfl rfl ?_
        refine r_getR (kf := 0) (d2 := (41, 0, 0)) C dX11_goesOn_154 rfl rfl f_X11 (by decide) t_5_56 rfl rfl ?_
        refine r_sipush (v := (172 : Int32)) C dX11_goesOn_157 rfl ?_
        refine r_dup2_ri C dX11_goesOn_160 ?_
        obtain ⟨h33, hF⟩ := ck_e hF
        refine r_iaload C 172 dX11_goesOn_161 rfl h33 rfl ?_
        refine r_iload_n C 6 3 dX11_goesOn_162 rfl rfl ?_
        refine r_iadd C dX11_goesOn_163 ?_
        obtain ⟨h34, hF⟩ := ck_e hF
        obtain ⟨σ35, eσ35, hF⟩ := nam_e hF
        refine r_iastore C 172 dX11_goesOn_164 rfl h34 rfl eσ35 ?_
        refine r_aload_n C 3 0 dX11_goesOn_165 rfl rfl ?_
        refine r_iload_n C 4 1 dX11_goesOn_166 rfl rfl ?_
        refine r_iconst (v := (2 : Int32)) C dX11_goesOn_167 rfl ?_
        obtain ⟨⟨⟩, σ36, e37, hF⟩ := bd_e hF
        refine r_callV_v (as := [vI a1, vI (2 : Int32)]) (st := []) C dX11_goesOn_168 (s_X11_ends G l e37) rfl rfl rfl t_6_41 t_6_43 t_s_39 t_1_14 t_6_44 m_X11_ends ⟨Nat.le_of_ble_eq_true rfl, Nat.le_of_ble_eq_true rfl⟩ ⟨rfl, rfl⟩ ⟨Nat.zero_le _, Nat.zero_le _⟩ rfl (Nat.le_of_ble_eq_true rfl) ?_
        refine r_goto C 213 dX11_goesOn_171 (by decide) ?_
        exact r_return C dX11_goesOn_213 (rv_e hF)
    · have hF := if_f h42 hF
      refine r_aload_n C 2 0 dX11_goesOn_94 rfl rfl ?_
      refine r_getR (kf := 0) (d2 := (41, 0, 0)) C dX11_goesOn_95 rfl rfl f_X11 (by decide) t_5_56 rfl rfl ?_
      refine r_bipush (v := (120 : Int32)) C dX11_goesOn_98 rfl ?_
      refine r_iload_n C 3 1 dX11_goesOn_100 rfl rfl ?_
      refine r_iadd C dX11_goesOn_101 ?_
      refine r_iload C 1 dX11_goesOn_102 rfl ?_
      refine r_iconst (v := (1 : Int32)) C dX11_goesOn_104 rfl ?_
      refine r_iadd C dX11_goesOn_105 ?_
      refine r_iconst (v := (4 : Int32)) C dX11_goesOn_106 rfl ?_
      obtain ⟨h39, hF⟩ := ck_e hF
      refine r_irem C dX11_goesOn_107 (nz h39) ?_
      obtain ⟨h40, hF⟩ := ck_e hF
      obtain ⟨σ41, eσ41, hF⟩ := nam_e hF
      refine r_iastore C (((120 : Int32) + a1).toNatClampNeg) dX11_goesOn_108 rfl h40 rfl eσ41 ?_
      exact r_return C dX11_goesOn_109 (rv_e hF)
  refine r_if_eq C 38 dX11_goesOn_26 (by decide)  (fun h53 => ?_) (fun h53 => ?_)
  · have hF := if_t h53 hF
    refine r_iload_n C 0 3 dX11_goesOn_38 rfl rfl ?_
    refine r_aload_n C 2 0 dX11_goesOn_39 rfl rfl ?_
    refine r_getR (kf := 2) (d2 := (43, 0, 0)) C dX11_goesOn_40 rfl rfl f_X11 (by decide) t_5_58 rfl rfl ?_
    refine r_bipush (v := (8 : Int32)) C dX11_goesOn_43 rfl ?_
    obtain ⟨h43, hF⟩ := ck_e hF
    refine r_iaload C 8 dX11_goesOn_45 rfl h43 rfl ?_
    refine r_icmp_gt C 66 dX11_goesOn_46 (by decide)  (fun h51 => ?_) (fun h51 => ?_)
    · have hF := if_t h51 hF
      refine r_aload_n C 2 0 dX11_goesOn_66 rfl rfl ?_
      refine r_getR (kf := 0) (d2 := (41, 0, 0)) C dX11_goesOn_67 rfl rfl f_X11 (by decide) t_5_56 rfl rfl ?_
      refine r_bipush (v := (120 : Int32)) C dX11_goesOn_70 rfl ?_
      refine r_iload_n C 3 1 dX11_goesOn_72 rfl rfl ?_
      refine r_iadd C dX11_goesOn_73 ?_
      obtain ⟨h44, hF⟩ := ck_e hF
      refine r_iaload C (((120 : Int32) + a1).toNatClampNeg) dX11_goesOn_74 rfl h44 rfl ?_
      refine r_drop (ls2 := [(0, vR (40, 0, 0)), (1, vI a1), (2, vI x2), (3, vI x4)]) [2, 3, 1, 0] rfl ?_
      exact hk9 _ _ hF
    · have hF := if_f h51 hF
      refine r_aload_n C 2 0 dX11_goesOn_49 rfl rfl ?_
      refine r_getR (kf := 0) (d2 := (41, 0, 0)) C dX11_goesOn_50 rfl rfl f_X11 (by decide) t_5_56 rfl rfl ?_
      refine r_iload_n C 1 2 dX11_goesOn_53 rfl rfl ?_
      obtain ⟨h45, hF⟩ := ck_e hF
      refine r_iaload C (x2.toNatClampNeg) dX11_goesOn_54 rfl h45 rfl ?_
      refine r_iconst (v := (4 : Int32)) C dX11_goesOn_55 rfl ?_
      refine r_icmp_lt C 66 dX11_goesOn_56 (by decide)  (fun h50 => ?_) (fun h50 => ?_)
      · have hF := if_t h50 hF
        refine r_aload_n C 2 0 dX11_goesOn_66 rfl rfl ?_
        refine r_getR (kf := 0) (d2 := (41, 0, 0)) C dX11_goesOn_67 rfl rfl f_X11 (by decide) t_5_56 rfl rfl ?_
        refine r_bipush (v := (120 : Int32)) C dX11_goesOn_70 rfl ?_
        refine r_iload_n C 3 1 dX11_goesOn_72 rfl rfl ?_
        refine r_iadd C dX11_goesOn_73 ?_
        obtain ⟨h46, hF⟩ := ck_e hF
        refine r_iaload C (((120 : Int32) + a1).toNatClampNeg) dX11_goesOn_74 rfl h46 rfl ?_
        refine r_drop (ls2 := [(0, vR (40, 0, 0)), (1, vI a1), (2, vI x2), (3, vI x4)]) [2, 3, 1, 0] rfl ?_
        exact hk9 _ _ hF
      · have hF := if_f h50 hF
        refine r_aload_n C 2 0 dX11_goesOn_59 rfl rfl ?_
        obtain ⟨r48, σ47, e49, hF⟩ := bd_e hF
        refine r_callV_i (as := []) (st := []) C dX11_goesOn_60 (s_X11_draws G l e49) rfl rfl rfl t_6_57 t_6_59 t_s_43 t_1_14 t_6_60 m_X11_draws ⟨Nat.le_of_ble_eq_true rfl, Nat.le_of_ble_eq_true rfl⟩ ⟨rfl, rfl⟩ ⟨Nat.zero_le _, Nat.zero_le _⟩ rfl (Nat.le_of_ble_eq_true rfl) ?_
        refine r_goto C 75 dX11_goesOn_63 (by decide) ?_
        refine r_drop (ls2 := [(0, vR (40, 0, 0)), (1, vI a1), (2, vI x2), (3, vI x4)]) [2, 3, 1, 0] rfl ?_
        exact hk9 _ _ hF
  · have hF := if_f h53 hF
    refine r_aload_n C 2 0 dX11_goesOn_29 rfl rfl ?_
    refine r_getR (kf := 0) (d2 := (41, 0, 0)) C dX11_goesOn_30 rfl rfl f_X11 (by decide) t_5_56 rfl rfl ?_
    refine r_iload_n C 1 2 dX11_goesOn_33 rfl rfl ?_
    obtain ⟨h52, hF⟩ := ck_e hF
    refine r_iaload C (x2.toNatClampNeg) dX11_goesOn_34 rfl h52 rfl ?_
    refine r_goto C 75 dX11_goesOn_35 (by decide) ?_
    refine r_drop (ls2 := [(0, vR (40, 0, 0)), (1, vI a1), (2, vI x2), (3, vI x4)]) [2, 3, 1, 0] rfl ?_
    exact hk9 _ _ hF
def F_X11_touches (a1 : Int32) (σ : St) : Option (Int32 × St) :=
  ck (inb (170 : Int32) 576) ((if (σ.1 (41, 0, 0) 170) = 0 then some ((1 : Int32), σ) else ck (inb ((96 : Int32) + a1) 576) (ck (inb (σ.1 (41, 0, 0) (((96 : Int32) + a1).toNatClampNeg)) 576) ((if (σ.1 (41, 0, 0) ((σ.1 (41, 0, 0) (((96 : Int32) + a1).toNatClampNeg)).toNatClampNeg)) = (7 : Int32) then some ((1 : Int32), σ) else some ((0 : Int32), σ))))))
set_option maxRecDepth 20000 in
set_option maxHeartbeats 4000000 in
theorem s_X11_touches (G : Gx) (l : Launch) {a1 : Int32} {σ σ' : St} {r : Int32} (hF : F_X11_touches a1 σ = some (r, σ')) : Sp G l yX11_touches cX11_touches 2 (some .boolean) (lvl 0) [vR (40, 0, 0), vI a1] σ (va_Qi (fun a b => a = r ∧ b = σ') (Wd G) (AG G)) := by
  refine Sp_of (own := RX11) (by decide) rfl (Nat.le_of_ble_eq_true rfl) ?_
  intro p e s m args below meth c C
  show Rt G p l e (lvl 0) s m args below meth c 0 0 (MQ below (va_Qi (fun a b => a = r ∧ b = σ') (Wd G) (AG G)) args s 0 0 (AG G)) 2 0 [(0, vR (40, 0, 0)), (1, vI a1)] [] σ
  unfold F_X11_touches at hF
  refine r_aload_n C 0 0 dX11_touches_0 rfl rfl ?_
  refine r_getR (kf := 0) (d2 := (41, 0, 0)) C dX11_touches_1 rfl rfl f_X11 (by decide) t_5_56 rfl rfl ?_
  refine r_sipush (v := (170 : Int32)) C dX11_touches_4 rfl ?_
  obtain ⟨h1, hF⟩ := ck_e hF
  refine r_iaload C 170 dX11_touches_7 rfl h1 rfl ?_
  refine r_if_eq C 30 dX11_touches_8 (by decide)  (fun h5 => ?_) (fun h5 => ?_)
  · have hF := if_t h5 hF
    refine r_iconst (v := (1 : Int32)) C dX11_touches_30 rfl ?_
    refine r_goto C 35 dX11_touches_31 (by decide) ?_
    exact r_zreturn C dX11_touches_35 (nar_z (Or.inr rfl)) (rt_e hF)
  · have hF := if_f h5 hF
    refine r_aload_n C 0 0 dX11_touches_11 rfl rfl ?_
    refine r_getR (kf := 0) (d2 := (41, 0, 0)) C dX11_touches_12 rfl rfl f_X11 (by decide) t_5_56 rfl rfl ?_
    refine r_aload_n C 0 0 dX11_touches_15 rfl rfl ?_
    refine r_getR (kf := 0) (d2 := (41, 0, 0)) C dX11_touches_16 rfl rfl f_X11 (by decide) t_5_56 rfl rfl ?_
    refine r_bipush (v := (96 : Int32)) C dX11_touches_19 rfl ?_
    refine r_iload_n C 1 1 dX11_touches_21 rfl rfl ?_
    refine r_iadd C dX11_touches_22 ?_
    obtain ⟨h2, hF⟩ := ck_e hF
    refine r_iaload C (((96 : Int32) + a1).toNatClampNeg) dX11_touches_23 rfl h2 rfl ?_
    obtain ⟨h3, hF⟩ := ck_e hF
    refine r_iaload C ((σ.1 (41, 0, 0) (((96 : Int32) + a1).toNatClampNeg)).toNatClampNeg) dX11_touches_24 rfl h3 rfl ?_
    refine r_bipush (v := (7 : Int32)) C dX11_touches_25 rfl ?_
    refine r_icmp_ne C 34 dX11_touches_27 (by decide)  (fun h4 => ?_) (fun h4 => ?_)
    · have hF := if_f h4 hF
      refine r_iconst (v := (0 : Int32)) C dX11_touches_34 rfl ?_
      exact r_zreturn C dX11_touches_35 (nar_z (Or.inl rfl)) (rt_e hF)
    · have hF := if_t h4 hF
      refine r_iconst (v := (1 : Int32)) C dX11_touches_30 rfl ?_
      refine r_goto C 35 dX11_touches_31 (by decide) ?_
      exact r_zreturn C dX11_touches_35 (nar_z (Or.inr rfl)) (rt_e hF)
def F_X11_acts (a1 : Int32) (σ : St) : Option (Unit × St) :=
  bd (F_X11_touches a1 σ) fun r2 σ1 => (if r2 = 0 then ck (inb ((108 : Int32) + a1) 576) (ck (inb (168 : Int32) 576) (bd (F_X11_thins (σ1.1 (41, 0, 0) (((108 : Int32) + a1).toNatClampNeg)) (σ1.1 (41, 0, 0) 168) σ1) fun r7 σ6 => bd (F_X11_loses a1 r7 σ6) fun _ σ9 => bd (F_X11_isThere a1 σ9) fun r12 σ11 => (if r12 = 0 then some ((), σ11) else ck (inb ((108 : Int32) + a1) 576) (ck (inb (4 : Int32) 9) ((if (σ11.1 (43, 0, 0) 4) < (σ11.1 (41, 0, 0) (((108 : Int32) + a1).toNatClampNeg)) then bd (F_X11_goesOn a1 σ11) fun _ σ16 => some ((), σ16) else ck (inb (173 : Int32) 576) (ck (inb ((108 : Int32) + a1) 576) (ck (inb (173 : Int32) 576) (nam (uI σ11 (41, 0, 0) 173 ((σ11.1 (41, 0, 0) 173) + (σ11.1 (41, 0, 0) (((108 : Int32) + a1).toNatClampNeg)))) fun σ21 => bd (F_X11_ends a1 (3 : Int32) σ21) fun _ σ22 => some ((), σ22)))))))))) else ck (inb ((108 : Int32) + a1) 576) (ck (inb (169 : Int32) 576) (bd (F_X11_hisses (σ1.1 (41, 0, 0) (((108 : Int32) + a1).toNatClampNeg)) (σ1.1 (41, 0, 0) 169) σ1) fun r29 σ28 => bd (F_X11_loses a1 r29 σ28) fun _ σ31 => some ((), σ31))))
set_option maxRecDepth 20000 in
set_option maxHeartbeats 4000000 in
theorem s_X11_acts (G : Gx) (l : Launch) {a1 : Int32} {σ σ' : St}  (hF : F_X11_acts a1 σ = some ((), σ')) : Sp G l yX11_acts cX11_acts 2 none (lvl 3) [vR (40, 0, 0), vI a1] σ (va_Qv (fun b => b = σ') (Wd G) (AG G)) := by
  refine Sp_of (own := RX11) (by decide) rfl (Nat.le_of_ble_eq_true rfl) ?_
  intro p e s m args below meth c C
  show Rt G p l e (lvl 3) s m args below meth c 0 0 (MQ below (va_Qv (fun b => b = σ') (Wd G) (AG G)) args s 0 0 (AG G)) 2 0 [(0, vR (40, 0, 0)), (1, vI a1)] [] σ
  unfold F_X11_acts at hF
  refine r_aload_n C 0 0 dX11_acts_0 rfl rfl ?_
  refine r_iload_n C 1 1 dX11_acts_1 rfl rfl ?_
  obtain ⟨r2, σ1, e3, hF⟩ := bd_e hF
  refine r_callV_i (as := [vI a1]) (st := []) C dX11_acts_2 (s_X11_touches G l e3) rfl rfl rfl t_6_26 t_6_28 t_s_36 t_1_14 t_6_29 m_X11_touches ⟨Nat.le_of_ble_eq_true rfl, Nat.le_of_ble_eq_true rfl⟩ ⟨rfl, rfl⟩ ⟨Nat.zero_le _, Nat.zero_le _⟩ rfl (Nat.le_of_ble_eq_true rfl) ?_
  refine r_if_eq C 35 dX11_acts_5 (by decide)  (fun h33 => ?_) (fun h33 => ?_)
  · have hF := if_t h33 hF
    refine r_aload_n C 0 0 dX11_acts_35 rfl rfl ?_
    refine r_iload_n C 1 1 dX11_acts_36 rfl rfl ?_
    refine r_aload_n C 0 0 dX11_acts_37 rfl rfl ?_
    refine r_aload_n C 0 0 dX11_acts_38 rfl rfl ?_
    refine r_getR (kf := 0) (d2 := (41, 0, 0)) C dX11_acts_39 rfl rfl f_X11 (by decide) t_5_56 rfl rfl ?_
    refine r_bipush (v := (108 : Int32)) C dX11_acts_42 rfl ?_
    refine r_iload_n C 1 1 dX11_acts_44 rfl rfl ?_
    refine r_iadd C dX11_acts_45 ?_
    obtain ⟨h4, hF⟩ := ck_e hF
    refine r_iaload C (((108 : Int32) + a1).toNatClampNeg) dX11_acts_46 rfl h4 rfl ?_
    refine r_aload_n C 0 0 dX11_acts_47 rfl rfl ?_
    refine r_getR (kf := 0) (d2 := (41, 0, 0)) C dX11_acts_48 rfl rfl f_X11 (by decide) t_5_56 rfl rfl ?_
    refine r_sipush (v := (168 : Int32)) C dX11_acts_51 rfl ?_
    obtain ⟨h5, hF⟩ := ck_e hF
    refine r_iaload C 168 dX11_acts_54 rfl h5 rfl ?_
    obtain ⟨r7, σ6, e8, hF⟩ := bd_e hF
    refine r_callV_i (as := [vI (σ1.1 (41, 0, 0) (((108 : Int32) + a1).toNatClampNeg)), vI (σ1.1 (41, 0, 0) 168)]) (st := [vI a1, vR (40, 0, 0)]) C dX11_acts_55 (s_X11_thins G l e8) rfl rfl rfl t_6_45 t_6_47 t_s_40 t_1_14 t_6_48 m_X11_thins ⟨Nat.le_of_ble_eq_true rfl, Nat.le_of_ble_eq_true rfl⟩ ⟨rfl, rfl⟩ ⟨Nat.zero_le _, Nat.zero_le _⟩ rfl (Nat.le_of_ble_eq_true rfl) ?_
    obtain ⟨⟨⟩, σ9, e10, hF⟩ := bd_e hF
    refine r_callV_v (as := [vI a1, vI r7]) (st := []) C dX11_acts_58 (s_X11_loses G l e10) rfl rfl rfl t_6_37 t_6_39 t_s_38 t_1_14 t_6_40 m_X11_loses ⟨Nat.le_of_ble_eq_true rfl, Nat.le_of_ble_eq_true rfl⟩ ⟨rfl, rfl⟩ ⟨Nat.zero_le _, Nat.zero_le _⟩ rfl (Nat.le_of_ble_eq_true rfl) ?_
    refine r_aload_n C 0 0 dX11_acts_61 rfl rfl ?_
    refine r_iload_n C 1 1 dX11_acts_62 rfl rfl ?_
    obtain ⟨r12, σ11, e13, hF⟩ := bd_e hF
    refine r_callV_i (as := [vI a1]) (st := []) C dX11_acts_63 (s_X11_isThere G l e13) rfl rfl rfl t_5_239 t_6_1 t_s_34 t_1_14 t_6_2 m_X11_isThere ⟨Nat.le_of_ble_eq_true rfl, Nat.le_of_ble_eq_true rfl⟩ ⟨rfl, rfl⟩ ⟨Nat.zero_le _, Nat.zero_le _⟩ rfl (Nat.le_of_ble_eq_true rfl) ?_
    refine r_if_ne C 70 dX11_acts_66 (by decide)  (fun h25 => ?_) (fun h25 => ?_)
    · have hF := if_f h25 hF
      refine r_aload_n C 0 0 dX11_acts_70 rfl rfl ?_
      refine r_getR (kf := 0) (d2 := (41, 0, 0)) C dX11_acts_71 rfl rfl f_X11 (by decide) t_5_56 rfl rfl ?_
      refine r_bipush (v := (108 : Int32)) C dX11_acts_74 rfl ?_
      refine r_iload_n C 1 1 dX11_acts_76 rfl rfl ?_
      refine r_iadd C dX11_acts_77 ?_
      obtain ⟨h14, hF⟩ := ck_e hF
      refine r_iaload C (((108 : Int32) + a1).toNatClampNeg) dX11_acts_78 rfl h14 rfl ?_
      refine r_aload_n C 0 0 dX11_acts_79 rfl rfl ?_
      refine r_getR (kf := 2) (d2 := (43, 0, 0)) C dX11_acts_80 rfl rfl f_X11 (by decide) t_5_58 rfl rfl ?_
      refine r_iconst (v := (4 : Int32)) C dX11_acts_83 rfl ?_
      obtain ⟨h15, hF⟩ := ck_e hF
      refine r_iaload C 4 dX11_acts_84 rfl h15 rfl ?_
      refine r_icmp_gt C 117 dX11_acts_85 (by decide)  (fun h24 => ?_) (fun h24 => ?_)
      · have hF := if_t h24 hF
        refine r_aload_n C 0 0 dX11_acts_117 rfl rfl ?_
        refine r_iload_n C 1 1 dX11_acts_118 rfl rfl ?_
        obtain ⟨⟨⟩, σ16, e17, hF⟩ := bd_e hF
        refine r_callV_v (as := [vI a1]) (st := []) C dX11_acts_119 (s_X11_goesOn G l e17) rfl rfl rfl t_6_49 t_6_51 t_s_41 t_1_14 t_6_52 m_X11_goesOn ⟨Nat.le_of_ble_eq_true rfl, Nat.le_of_ble_eq_true rfl⟩ ⟨rfl, rfl⟩ ⟨Nat.zero_le _, Nat.zero_le _⟩ rfl (Nat.le_of_ble_eq_true rfl) ?_
        exact r_return C dX11_acts_122 (rv_e hF)
      · have hF := if_f h24 hF
        refine r_aload_n C 0 0 dX11_acts_88 rfl rfl ?_
        refine r_getR (kf := 0) (d2 := (41, 0, 0)) C dX11_acts_89 rfl rfl f_X11 (by decide) t_5_56 rfl rfl ?_
        refine r_sipush (v := (173 : Int32)) C dX11_acts_92 rfl ?_
        refine r_dup2_ri C dX11_acts_95 ?_
        obtain ⟨h18, hF⟩ := ck_e hF
        refine r_iaload C 173 dX11_acts_96 rfl h18 rfl ?_
        refine r_aload_n C 0 0 dX11_acts_97 rfl rfl ?_
        refine r_getR (kf := 0) (d2 := (41, 0, 0)) C dX11_acts_98 rfl rfl f_X11 (by decide) t_5_56 rfl rfl ?_
        refine r_bipush (v := (108 : Int32)) C dX11_acts_101 rfl ?_
        refine r_iload_n C 1 1 dX11_acts_103 rfl rfl ?_
        refine r_iadd C dX11_acts_104 ?_
        obtain ⟨h19, hF⟩ := ck_e hF
        refine r_iaload C (((108 : Int32) + a1).toNatClampNeg) dX11_acts_105 rfl h19 rfl ?_
        refine r_iadd C dX11_acts_106 ?_
        obtain ⟨h20, hF⟩ := ck_e hF
        obtain ⟨σ21, eσ21, hF⟩ := nam_e hF
        refine r_iastore C 173 dX11_acts_107 rfl h20 rfl eσ21 ?_
        refine r_aload_n C 0 0 dX11_acts_108 rfl rfl ?_
        refine r_iload_n C 1 1 dX11_acts_109 rfl rfl ?_
        refine r_iconst (v := (3 : Int32)) C dX11_acts_110 rfl ?_
        obtain ⟨⟨⟩, σ22, e23, hF⟩ := bd_e hF
        refine r_callV_v (as := [vI a1, vI (3 : Int32)]) (st := []) C dX11_acts_111 (s_X11_ends G l e23) rfl rfl rfl t_6_41 t_6_43 t_s_39 t_1_14 t_6_44 m_X11_ends ⟨Nat.le_of_ble_eq_true rfl, Nat.le_of_ble_eq_true rfl⟩ ⟨rfl, rfl⟩ ⟨Nat.zero_le _, Nat.zero_le _⟩ rfl (Nat.le_of_ble_eq_true rfl) ?_
        refine r_goto C 122 dX11_acts_114 (by decide) ?_
        exact r_return C dX11_acts_122 (rv_e hF)
    · have hF := if_t h25 hF
      exact r_return C dX11_acts_69 (rv_e hF)
  · have hF := if_f h33 hF
    refine r_aload_n C 0 0 dX11_acts_8 rfl rfl ?_
    refine r_iload_n C 1 1 dX11_acts_9 rfl rfl ?_
    refine r_aload_n C 0 0 dX11_acts_10 rfl rfl ?_
    refine r_aload_n C 0 0 dX11_acts_11 rfl rfl ?_
    refine r_getR (kf := 0) (d2 := (41, 0, 0)) C dX11_acts_12 rfl rfl f_X11 (by decide) t_5_56 rfl rfl ?_
    refine r_bipush (v := (108 : Int32)) C dX11_acts_15 rfl ?_
    refine r_iload_n C 1 1 dX11_acts_17 rfl rfl ?_
    refine r_iadd C dX11_acts_18 ?_
    obtain ⟨h26, hF⟩ := ck_e hF
    refine r_iaload C (((108 : Int32) + a1).toNatClampNeg) dX11_acts_19 rfl h26 rfl ?_
    refine r_aload_n C 0 0 dX11_acts_20 rfl rfl ?_
    refine r_getR (kf := 0) (d2 := (41, 0, 0)) C dX11_acts_21 rfl rfl f_X11 (by decide) t_5_56 rfl rfl ?_
    refine r_sipush (v := (169 : Int32)) C dX11_acts_24 rfl ?_
    obtain ⟨h27, hF⟩ := ck_e hF
    refine r_iaload C 169 dX11_acts_27 rfl h27 rfl ?_
    obtain ⟨r29, σ28, e30, hF⟩ := bd_e hF
    refine r_callV_i (as := [vI (σ1.1 (41, 0, 0) (((108 : Int32) + a1).toNatClampNeg)), vI (σ1.1 (41, 0, 0) 169)]) (st := [vI a1, vR (40, 0, 0)]) C dX11_acts_28 (s_X11_hisses G l e30) rfl rfl rfl t_6_30 t_6_32 t_s_37 t_1_14 t_6_33 m_X11_hisses ⟨Nat.le_of_ble_eq_true rfl, Nat.le_of_ble_eq_true rfl⟩ ⟨rfl, rfl⟩ ⟨Nat.zero_le _, Nat.zero_le _⟩ rfl (Nat.le_of_ble_eq_true rfl) ?_
    obtain ⟨⟨⟩, σ31, e32, hF⟩ := bd_e hF
    refine r_callV_v (as := [vI a1, vI r29]) (st := []) C dX11_acts_31 (s_X11_loses G l e32) rfl rfl rfl t_6_37 t_6_39 t_s_38 t_1_14 t_6_40 m_X11_loses ⟨Nat.le_of_ble_eq_true rfl, Nat.le_of_ble_eq_true rfl⟩ ⟨rfl, rfl⟩ ⟨Nat.zero_le _, Nat.zero_le _⟩ rfl (Nat.le_of_ble_eq_true rfl) ?_
    exact r_return C dX11_acts_34 (rv_e hF)
def L_X11_thereMany_4  : Nat → Int32 → Int32 → St → Option (Int32 × St)
  | 0, _, _, _ => none
  | n + 1, v1, v2, τ =>
  ck (inb (176 : Int32) 576) ((if (τ.1 (41, 0, 0) 176) ≤ v2 then some (v1, τ) else bd (F_X11_isThere v2 τ) fun r3 σ2 => bd (F_X11_flag r3 σ2) fun r6 σ5 => nam (v1 + r6) fun x8 => nam (v2 + (1 : Int32)) fun x9 => L_X11_thereMany_4 n x8 x9 σ5))
def F_X11_thereMany  (σ : St) : Option (Int32 × St) :=
  L_X11_thereMany_4  FU (0 : Int32) (0 : Int32) σ 
set_option maxRecDepth 20000 in
set_option maxHeartbeats 4000000 in
theorem l_X11_thereMany_4 {G : Gx} {p : Program} {l : Launch} {e : Env} {s : State} {m : MethodId} {args : Array Value} {below : List Frame} {meth : Method} {c : Code} (C : Cx G p s m args meth c (some .int) 3 RX11 cX11_thereMany)  {σ' : St} {r : Int32} : ∀ (n : Nat) (v1 : Int32) (v2 : Int32) (τ : St), L_X11_thereMany_4  n v1 v2 τ = some (r, σ') → Rt G p l e (lvl 1) s m args below meth c 0 0 (MQ below (va_Qi (fun a b => a = r ∧ b = σ') (Wd G) (AG G)) args s 0 0 (AG G)) 3 4 [(0, vR (40, 0, 0)), (1, vI v1), (2, vI v2)] [] τ := by
  intro n
  induction n with
  | zero => intro v1 v2 τ hF; cases hF
  | succ n ih =>
    intro v1 v2 τ hF
    unfold L_X11_thereMany_4 at hF
    refine r_iload_n C 2 2 dX11_thereMany_4 rfl rfl ?_
    refine r_aload_n C 0 0 dX11_thereMany_5 rfl rfl ?_
    refine r_getR (kf := 0) (d2 := (41, 0, 0)) C dX11_thereMany_6 rfl rfl f_X11 (by decide) t_5_56 rfl rfl ?_
    refine r_sipush (v := (176 : Int32)) C dX11_thereMany_9 rfl ?_
    obtain ⟨h1, hF⟩ := ck_e hF
    refine r_iaload C 176 dX11_thereMany_12 rfl h1 rfl ?_
    refine r_icmp_ge C 33 dX11_thereMany_13 (by decide)  (fun h10 => ?_) (fun h10 => ?_)
    · have hF := if_t h10 hF
      refine r_iload_n C 1 1 dX11_thereMany_33 rfl rfl ?_
      exact r_ireturn C dX11_thereMany_34 (rt_e hF)
    · have hF := if_f h10 hF
      refine r_iload_n C 1 1 dX11_thereMany_16 rfl rfl ?_
      refine r_aload_n C 0 0 dX11_thereMany_17 rfl rfl ?_
      refine r_iload_n C 2 2 dX11_thereMany_18 rfl rfl ?_
      obtain ⟨r3, σ2, e4, hF⟩ := bd_e hF
      refine r_callV_i (as := [vI v2]) (st := [vI v1]) C dX11_thereMany_19 (s_X11_isThere G l e4) rfl rfl rfl t_5_239 t_6_1 t_s_34 t_1_14 t_6_2 m_X11_isThere ⟨Nat.le_of_ble_eq_true rfl, Nat.le_of_ble_eq_true rfl⟩ ⟨rfl, rfl⟩ ⟨Nat.zero_le _, Nat.zero_le _⟩ rfl (Nat.le_of_ble_eq_true rfl) ?_
      obtain ⟨r6, σ5, e7, hF⟩ := bd_e hF
      refine r_callS_i (as := [vI r3]) (st := [vI v1]) C dX11_thereMany_22 (s_X11_flag G l e7) t_5_195 t_5_196 t_1_14 t_5_197 m_X11_flag ⟨Nat.le_of_ble_eq_true rfl, Nat.le_of_ble_eq_true rfl⟩ ⟨rfl, rfl⟩ ⟨Nat.zero_le _, Nat.zero_le _⟩ rfl (Nat.le_of_ble_eq_true rfl) ?_
      refine r_iadd C dX11_thereMany_25 ?_
      obtain ⟨x8, ex8, hF⟩ := nam_e hF
      refine r_topI ex8 ?_
      refine r_istore_n (ls2 := [(1, vI x8), (0, vR (40, 0, 0)), (2, vI v2)]) C dX11_thereMany_26 1 rfl (by decide) rfl ?_
      obtain ⟨x9, ex9, hF⟩ := nam_e hF
      refine r_iinc (v := x9) (ls2 := [(2, vI x9), (1, vI x8), (0, vR (40, 0, 0))]) C 2 dX11_thereMany_27 rfl ex9.symm (by decide) rfl ?_
      refine r_goto C 4 dX11_thereMany_30 (by decide) ?_
      refine r_drop (ls2 := [(0, vR (40, 0, 0)), (1, vI x8), (2, vI x9)]) [2, 1, 0] rfl ?_
      exact ih _ _ _ hF
set_option maxRecDepth 20000 in
set_option maxHeartbeats 4000000 in
theorem s_X11_thereMany (G : Gx) (l : Launch)  {σ σ' : St} {r : Int32} (hF : F_X11_thereMany  σ = some (r, σ')) : Sp G l yX11_thereMany cX11_thereMany 3 (some .int) (lvl 1) [vR (40, 0, 0)] σ (va_Qi (fun a b => a = r ∧ b = σ') (Wd G) (AG G)) := by
  refine Sp_of (own := RX11) (by decide) rfl (Nat.le_of_ble_eq_true rfl) ?_
  intro p e s m args below meth c C
  show Rt G p l e (lvl 1) s m args below meth c 0 0 (MQ below (va_Qi (fun a b => a = r ∧ b = σ') (Wd G) (AG G)) args s 0 0 (AG G)) 3 0 [(0, vR (40, 0, 0))] [] σ
  unfold F_X11_thereMany at hF
  refine r_iconst (v := (0 : Int32)) C dX11_thereMany_0 rfl ?_
  refine r_istore_n (ls2 := [(1, vI (0 : Int32)), (0, vR (40, 0, 0))]) C dX11_thereMany_1 1 rfl (by decide) rfl ?_
  refine r_iconst (v := (0 : Int32)) C dX11_thereMany_2 rfl ?_
  refine r_istore_n (ls2 := [(2, vI (0 : Int32)), (1, vI (0 : Int32)), (0, vR (40, 0, 0))]) C dX11_thereMany_3 2 rfl (by decide) rfl ?_
  refine r_drop (ls2 := [(0, vR (40, 0, 0)), (1, vI (0 : Int32)), (2, vI (0 : Int32))]) [2, 1, 0] rfl ?_
  refine l_X11_thereMany_4 C   _ _ _ _ hF
def L_X11_go_23 (c1 : Int32) (c2 : Int32) : Nat → Int32 → St → (St → Option (Int32 × St)) → Option (Int32 × St)
  | 0, _, _, _ => none
  | n + 1, v3, τ, kx54 =>
  ck (inb (176 : Int32) 576) ((if (τ.1 (41, 0, 0) 176) ≤ v3 then kx54  τ else bd (F_X11_isThere v3 τ) fun r6 σ5 => nam (fun  (σ9 : St) => nam (v3 + (1 : Int32)) fun x10 => L_X11_go_23 c1 c2 n x10 σ9 kx54) fun k8 => (if r6 = 0 then k8  σ5 else bd (F_X11_acts v3 σ5) fun _ σ11 => k8  σ11)))
def L_X11_go_16 (c1 : Int32) : Nat → Int32 → St → (St → Option (Int32 × St)) → Option (Int32 × St)
  | 0, _, _, _ => none
  | n + 1, v2, τ, kx72 =>
  (if c1 ≤ v2 then kx72  τ else L_X11_go_23 c1 v2 FU (0 : Int32) τ (fun  (σ15 : St) => ck (inb (168 : Int32) 576) (ck (inb (168 : Int32) 576) (nam (uI σ15 (41, 0, 0) 168 ((σ15.1 (41, 0, 0) 168) + (1 : Int32))) fun σ18 => nam (v2 + (1 : Int32)) fun x19 => L_X11_go_16 c1 n x19 σ18 kx72))))
def F_X11_go (a1 : Int32) (σ : St) : Option (Int32 × St) :=
  bd (F_X11_in (a1.toInt64) (1 : Int64) (200 : Int64) σ) fun r2 σ1 => (if r2 = 0 then some ((-1 : Int32), σ1) else L_X11_go_16 a1 FU (0 : Int32) σ1 (fun  (σ21 : St) => bd (F_X11_thereMany  σ21) fun r23 σ22 => some (r23, σ22)))
set_option maxRecDepth 20000 in
set_option maxHeartbeats 4000000 in
theorem l_X11_go_23 {G : Gx} {p : Program} {l : Launch} {e : Env} {s : State} {m : MethodId} {args : Array Value} {below : List Frame} {meth : Method} {c : Code} (C : Cx G p s m args meth c (some .int) 4 RX11 cX11_go) (c1 : Int32) (c2 : Int32) {σ' : St} {r : Int32} (kx54 : St → Option (Int32 × St)) (hkx54 : ∀  (τ : St), kx54  τ = some (r, σ') → Rt G p l e (lvl 4) s m args below meth c 0 0 (MQ below (va_Qi (fun a b => a = r ∧ b = σ') (Wd G) (AG G)) args s 0 0 (AG G)) 4 54 [(0, vR (40, 0, 0)), (1, vI c1), (2, vI c2)] [] τ) : ∀ (n : Nat) (v3 : Int32) (τ : St), L_X11_go_23 c1 c2 n v3 τ kx54 = some (r, σ') → Rt G p l e (lvl 4) s m args below meth c 0 0 (MQ below (va_Qi (fun a b => a = r ∧ b = σ') (Wd G) (AG G)) args s 0 0 (AG G)) 4 23 [(0, vR (40, 0, 0)), (1, vI c1), (2, vI c2), (3, vI v3)] [] τ := by
  intro n
  induction n with
  | zero => intro v3 τ hF; cases hF
  | succ n ih =>
    intro v3 τ hF
    unfold L_X11_go_23 at hF
    refine r_iload_n C 3 3 dX11_go_23 rfl rfl ?_
    refine r_aload_n C 0 0 dX11_go_24 rfl rfl ?_
    refine r_getR (kf := 0) (d2 := (41, 0, 0)) C dX11_go_25 rfl rfl f_X11 (by decide) t_5_56 rfl rfl ?_
    refine r_sipush (v := (176 : Int32)) C dX11_go_28 rfl ?_
    obtain ⟨h4, hF⟩ := ck_e hF
    refine r_iaload C 176 dX11_go_31 rfl h4 rfl ?_
    refine r_icmp_ge C 54 dX11_go_32 (by decide)  (fun h14 => ?_) (fun h14 => ?_)
    · have hF := if_t h14 hF
      refine r_drop (ls2 := [(0, vR (40, 0, 0)), (1, vI c1), (2, vI c2)]) [0, 1, 2] rfl ?_
      exact hkx54 _ hF
    · have hF := if_f h14 hF
      refine r_aload_n C 0 0 dX11_go_35 rfl rfl ?_
      refine r_iload_n C 3 3 dX11_go_36 rfl rfl ?_
      obtain ⟨r6, σ5, e7, hF⟩ := bd_e hF
      refine r_callV_i (as := [vI v3]) (st := []) C dX11_go_37 (s_X11_isThere G l e7) rfl rfl rfl t_5_239 t_6_1 t_s_34 t_1_14 t_6_2 m_X11_isThere ⟨Nat.le_of_ble_eq_true rfl, Nat.le_of_ble_eq_true rfl⟩ ⟨rfl, rfl⟩ ⟨Nat.zero_le _, Nat.zero_le _⟩ rfl (Nat.le_of_ble_eq_true rfl) ?_
      obtain ⟨k8, ek8, hF⟩ := nam_e hF
      have hk8 : ∀  (σ9 : St), k8  σ9 = some (r, σ') → Rt G p l e (lvl 4) s m args below meth c 0 0 (MQ below (va_Qi (fun a b => a = r ∧ b = σ') (Wd G) (AG G)) args s 0 0 (AG G)) 4 48 [(0, vR (40, 0, 0)), (1, vI c1), (2, vI c2), (3, vI v3)] [] σ9 := by
        intro  σ9 hF
        subst ek8
        obtain ⟨x10, ex10, hF⟩ := nam_e hF
        refine r_iinc (v := x10) (ls2 := [(3, vI x10), (0, vR (40, 0, 0)), (1, vI c1), (2, vI c2)]) C 3 dX11_go_48 rfl ex10.symm (by decide) rfl ?_
        refine r_goto C 23 dX11_go_51 (by decide) ?_
        refine r_drop (ls2 := [(0, vR (40, 0, 0)), (1, vI c1), (2, vI c2), (3, vI x10)]) [1, 2, 3, 0] rfl ?_
        exact ih _ _ hF
      refine r_if_eq C 48 dX11_go_40 (by decide)  (fun h13 => ?_) (fun h13 => ?_)
      · have hF := if_t h13 hF
        exact hk8 _ hF
      · have hF := if_f h13 hF
        refine r_aload_n C 0 0 dX11_go_43 rfl rfl ?_
        refine r_iload_n C 3 3 dX11_go_44 rfl rfl ?_
        obtain ⟨⟨⟩, σ11, e12, hF⟩ := bd_e hF
        refine r_callV_v (as := [vI v3]) (st := []) C dX11_go_45 (s_X11_acts G l e12) rfl rfl rfl t_6_22 t_6_24 t_s_35 t_1_14 t_6_25 m_X11_acts ⟨Nat.le_of_ble_eq_true rfl, Nat.le_of_ble_eq_true rfl⟩ ⟨rfl, rfl⟩ ⟨Nat.zero_le _, Nat.zero_le _⟩ rfl (Nat.le_of_ble_eq_true rfl) ?_
        exact hk8 _ hF
set_option maxRecDepth 20000 in
set_option maxHeartbeats 4000000 in
theorem l_X11_go_16 {G : Gx} {p : Program} {l : Launch} {e : Env} {s : State} {m : MethodId} {args : Array Value} {below : List Frame} {meth : Method} {c : Code} (C : Cx G p s m args meth c (some .int) 4 RX11 cX11_go) (c1 : Int32) {σ' : St} {r : Int32} (kx72 : St → Option (Int32 × St)) (hkx72 : ∀  (τ : St), kx72  τ = some (r, σ') → Rt G p l e (lvl 4) s m args below meth c 0 0 (MQ below (va_Qi (fun a b => a = r ∧ b = σ') (Wd G) (AG G)) args s 0 0 (AG G)) 4 72 [(0, vR (40, 0, 0))] [] τ) : ∀ (n : Nat) (v2 : Int32) (τ : St), L_X11_go_16 c1 n v2 τ kx72 = some (r, σ') → Rt G p l e (lvl 4) s m args below meth c 0 0 (MQ below (va_Qi (fun a b => a = r ∧ b = σ') (Wd G) (AG G)) args s 0 0 (AG G)) 4 16 [(0, vR (40, 0, 0)), (1, vI c1), (2, vI v2)] [] τ := by
  intro n
  induction n with
  | zero => intro v2 τ hF; cases hF
  | succ n ih =>
    intro v2 τ hF
    unfold L_X11_go_16 at hF
    refine r_iload_n C 2 2 dX11_go_16 rfl rfl ?_
    refine r_iload_n C 1 1 dX11_go_17 rfl rfl ?_
    refine r_icmp_ge C 72 dX11_go_18 (by decide)  (fun h20 => ?_) (fun h20 => ?_)
    · have hF := if_t h20 hF
      refine r_drop (ls2 := [(0, vR (40, 0, 0))]) [0] rfl ?_
      exact hkx72 _ hF
    · have hF := if_f h20 hF
      refine r_iconst (v := (0 : Int32)) C dX11_go_21 rfl ?_
      refine r_istore_n (ls2 := [(3, vI (0 : Int32)), (0, vR (40, 0, 0)), (1, vI c1), (2, vI v2)]) C dX11_go_22 3 rfl (by decide) rfl ?_
      refine r_drop (ls2 := [(0, vR (40, 0, 0)), (1, vI c1), (2, vI v2), (3, vI (0 : Int32))]) [1, 2, 3, 0] rfl ?_
      refine l_X11_go_23 C c1 v2 _ ?_ _ _ _ hF
      · intro  σ15 hF
        refine r_aload_n C 0 0 dX11_go_54 rfl rfl ?_
        refine r_getR (kf := 0) (d2 := (41, 0, 0)) C dX11_go_55 rfl rfl f_X11 (by decide) t_5_56 rfl rfl ?_
        refine r_sipush (v := (168 : Int32)) C dX11_go_58 rfl ?_
        refine r_dup2_ri C dX11_go_61 ?_
        obtain ⟨h16, hF⟩ := ck_e hF
        refine r_iaload C 168 dX11_go_62 rfl h16 rfl ?_
        refine r_iconst (v := (1 : Int32)) C dX11_go_63 rfl ?_
        refine r_iadd C dX11_go_64 ?_
        obtain ⟨h17, hF⟩ := ck_e hF
        obtain ⟨σ18, eσ18, hF⟩ := nam_e hF
        refine r_iastore C 168 dX11_go_65 rfl h17 rfl eσ18 ?_
        obtain ⟨x19, ex19, hF⟩ := nam_e hF
        refine r_iinc (v := x19) (ls2 := [(2, vI x19), (0, vR (40, 0, 0)), (1, vI c1)]) C 2 dX11_go_66 rfl ex19.symm (by decide) rfl ?_
        refine r_goto C 16 dX11_go_69 (by decide) ?_
        refine r_drop (ls2 := [(0, vR (40, 0, 0)), (1, vI c1), (2, vI x19)]) [1, 2, 0] rfl ?_
        exact ih _ _ hF
set_option maxRecDepth 20000 in
set_option maxHeartbeats 4000000 in
theorem s_X11_go (G : Gx) (l : Launch) {a1 : Int32} {σ σ' : St} {r : Int32} (hF : F_X11_go a1 σ = some (r, σ')) : Sp G l yX11_go cX11_go 4 (some .int) (lvl 4) [vR (40, 0, 0), vI a1] σ (va_Qi (fun a b => a = r ∧ b = σ') (Wd G) (AG G)) := by
  refine Sp_of (own := RX11) (by decide) rfl (Nat.le_of_ble_eq_true rfl) ?_
  intro p e s m args below meth c C
  show Rt G p l e (lvl 4) s m args below meth c 0 0 (MQ below (va_Qi (fun a b => a = r ∧ b = σ') (Wd G) (AG G)) args s 0 0 (AG G)) 4 0 [(0, vR (40, 0, 0)), (1, vI a1)] [] σ
  unfold F_X11_go at hF
  refine r_iload_n C 1 1 dX11_go_0 rfl rfl ?_
  refine r_i2l C dX11_go_1 ?_
  refine r_lconst (v := (1 : Int64)) C dX11_go_2 rfl ?_
  refine r_ldc2_w (v := (200 : Int64)) C dX11_go_3 t_6_21 ?_
  obtain ⟨r2, σ1, e3, hF⟩ := bd_e hF
  refine r_callS_i (as := [vL (a1.toInt64), vL (1 : Int64), vL (200 : Int64)]) (st := []) C dX11_go_6 (s_X11_in G l e3) t_5_153 t_5_154 t_1_14 t_5_155 m_X11_in ⟨Nat.le_of_ble_eq_true rfl, Nat.le_of_ble_eq_true rfl⟩ ⟨rfl, rfl⟩ ⟨Nat.zero_le _, Nat.zero_le _⟩ rfl (Nat.le_of_ble_eq_true rfl) ?_
  refine r_if_ne C 14 dX11_go_9 (by decide)  (fun h25 => ?_) (fun h25 => ?_)
  · have hF := if_f h25 hF
    refine r_iconst (v := (0 : Int32)) C dX11_go_14 rfl ?_
    refine r_istore_n (ls2 := [(2, vI (0 : Int32)), (0, vR (40, 0, 0)), (1, vI a1)]) C dX11_go_15 2 rfl (by decide) rfl ?_
    refine r_drop (ls2 := [(0, vR (40, 0, 0)), (1, vI a1), (2, vI (0 : Int32))]) [1, 2, 0] rfl ?_
    refine l_X11_go_16 C a1 _ ?_ _ _ _ hF
    · intro  σ21 hF
      refine r_aload_n C 0 0 dX11_go_72 rfl rfl ?_
      obtain ⟨r23, σ22, e24, hF⟩ := bd_e hF
      refine r_callV_i (as := []) (st := []) C dX11_go_73 (s_X11_thereMany G l e24) rfl rfl rfl t_6_70 t_6_72 t_s_45 t_1_14 t_6_73 m_X11_thereMany ⟨Nat.le_of_ble_eq_true rfl, Nat.le_of_ble_eq_true rfl⟩ ⟨rfl, rfl⟩ ⟨Nat.zero_le _, Nat.zero_le _⟩ rfl (Nat.le_of_ble_eq_true rfl) ?_
      exact r_ireturn C dX11_go_76 (rt_e hF)
  · have hF := if_t h25 hF
    refine r_iconst (v := (-1 : Int32)) C dX11_go_12 rfl ?_
    exact r_ireturn C dX11_go_13 (rt_e hF)
def F_X11_seed (a1 : Int32) (σ : St) : Option (Int32 × St) :=
  ck (inb (175 : Int32) 576) (nam (σ.1 (41, 0, 0) 175) fun x2 => ck (inb (175 : Int32) 576) (nam (uI σ (41, 0, 0) 175 a1) fun σ4 => some (x2, σ4)))
set_option maxRecDepth 20000 in
set_option maxHeartbeats 4000000 in
theorem s_X11_seed (G : Gx) (l : Launch) {a1 : Int32} {σ σ' : St} {r : Int32} (hF : F_X11_seed a1 σ = some (r, σ')) : Sp G l yX11_seed cX11_seed 3 (some .int) (lvl 0) [vR (40, 0, 0), vI a1] σ (va_Qi (fun a b => a = r ∧ b = σ') (Wd G) (AG G)) := by
  refine Sp_of (own := RX11) (by decide) rfl (Nat.le_of_ble_eq_true rfl) ?_
  intro p e s m args below meth c C
  show Rt G p l e (lvl 0) s m args below meth c 0 0 (MQ below (va_Qi (fun a b => a = r ∧ b = σ') (Wd G) (AG G)) args s 0 0 (AG G)) 3 0 [(0, vR (40, 0, 0)), (1, vI a1)] [] σ
  unfold F_X11_seed at hF
  refine r_aload_n C 0 0 dX11_seed_0 rfl rfl ?_
  refine r_getR (kf := 0) (d2 := (41, 0, 0)) C dX11_seed_1 rfl rfl f_X11 (by decide) t_5_56 rfl rfl ?_
  refine r_sipush (v := (175 : Int32)) C dX11_seed_4 rfl ?_
  obtain ⟨h1, hF⟩ := ck_e hF
  refine r_iaload C 175 dX11_seed_7 rfl h1 rfl ?_
  obtain ⟨x2, ex2, hF⟩ := nam_e hF
  refine r_topI ex2 ?_
  refine r_istore_n (ls2 := [(2, vI x2), (0, vR (40, 0, 0)), (1, vI a1)]) C dX11_seed_8 2 rfl (by decide) rfl ?_
  refine r_aload_n C 1 0 dX11_seed_9 rfl rfl ?_
  refine r_getR (kf := 0) (d2 := (41, 0, 0)) C dX11_seed_10 rfl rfl f_X11 (by decide) t_5_56 rfl rfl ?_
  refine r_sipush (v := (175 : Int32)) C dX11_seed_13 rfl ?_
  refine r_iload_n C 2 1 dX11_seed_16 rfl rfl ?_
  obtain ⟨h3, hF⟩ := ck_e hF
  obtain ⟨σ4, eσ4, hF⟩ := nam_e hF
  refine r_iastore C 175 dX11_seed_17 rfl h3 rfl eσ4 ?_
  refine r_iload_n C 0 2 dX11_seed_18 rfl rfl ?_
  exact r_ireturn C dX11_seed_19 (rt_e hF)
def F_X11_of (a1 : Int32) (a2 : Int32) (σ : St) : Option (Int32 × St) :=
  ck (inb (176 : Int32) 576) (bd (F_X11_in (a1.toInt64) (0 : Int64) (((σ.1 (41, 0, 0) 176) - (1 : Int32)).toInt64) σ) fun r3 σ2 => (if r3 = 0 then some ((-1 : Int32), σ2) else (if a2 = (0 : Int32) then ck (inb ((96 : Int32) + a1) 576) (some (σ2.1 (41, 0, 0) (((96 : Int32) + a1).toNatClampNeg), σ2)) else (if a2 = (1 : Int32) then ck (inb ((108 : Int32) + a1) 576) (some (σ2.1 (41, 0, 0) (((108 : Int32) + a1).toNatClampNeg), σ2)) else (if a2 = (2 : Int32) then ck (inb ((120 : Int32) + a1) 576) (some (σ2.1 (41, 0, 0) (((120 : Int32) + a1).toNatClampNeg), σ2)) else (if a2 = (3 : Int32) then ck (inb ((132 : Int32) + a1) 576) (some (σ2.1 (41, 0, 0) (((132 : Int32) + a1).toNatClampNeg), σ2)) else (if a2 = (4 : Int32) then ck (inb ((144 : Int32) + a1) 576) (some (σ2.1 (41, 0, 0) (((144 : Int32) + a1).toNatClampNeg), σ2)) else (if a2 = (5 : Int32) then ck (inb ((156 : Int32) + a1) 576) (some (σ2.1 (41, 0, 0) (((156 : Int32) + a1).toNatClampNeg), σ2)) else some ((-1 : Int32), σ2)))))))))
set_option maxRecDepth 20000 in
set_option maxHeartbeats 4000000 in
theorem s_X11_of (G : Gx) (l : Launch) {a1 : Int32} {a2 : Int32} {σ σ' : St} {r : Int32} (hF : F_X11_of a1 a2 σ = some (r, σ')) : Sp G l yX11_of cX11_of 3 (some .int) (lvl 1) [vR (40, 0, 0), vI a1, vI a2] σ (va_Qi (fun a b => a = r ∧ b = σ') (Wd G) (AG G)) := by
  refine Sp_of (own := RX11) (by decide) rfl (Nat.le_of_ble_eq_true rfl) ?_
  intro p e s m args below meth c C
  show Rt G p l e (lvl 1) s m args below meth c 0 0 (MQ below (va_Qi (fun a b => a = r ∧ b = σ') (Wd G) (AG G)) args s 0 0 (AG G)) 3 0 [(0, vR (40, 0, 0)), (1, vI a1), (2, vI a2)] [] σ
  unfold F_X11_of at hF
  refine r_iload_n C 1 1 dX11_of_0 rfl rfl ?_
  refine r_i2l C dX11_of_1 ?_
  refine r_lconst (v := (0 : Int64)) C dX11_of_2 rfl ?_
  refine r_aload_n C 0 0 dX11_of_3 rfl rfl ?_
  refine r_getR (kf := 0) (d2 := (41, 0, 0)) C dX11_of_4 rfl rfl f_X11 (by decide) t_5_56 rfl rfl ?_
  refine r_sipush (v := (176 : Int32)) C dX11_of_7 rfl ?_
  obtain ⟨h1, hF⟩ := ck_e hF
  refine r_iaload C 176 dX11_of_10 rfl h1 rfl ?_
  refine r_iconst (v := (1 : Int32)) C dX11_of_11 rfl ?_
  refine r_isub C dX11_of_12 ?_
  refine r_i2l C dX11_of_13 ?_
  obtain ⟨r3, σ2, e4, hF⟩ := bd_e hF
  refine r_callS_i (as := [vL (a1.toInt64), vL (0 : Int64), vL (((σ.1 (41, 0, 0) 176) - (1 : Int32)).toInt64)]) (st := []) C dX11_of_14 (s_X11_in G l e4) t_5_153 t_5_154 t_1_14 t_5_155 m_X11_in ⟨Nat.le_of_ble_eq_true rfl, Nat.le_of_ble_eq_true rfl⟩ ⟨rfl, rfl⟩ ⟨Nat.zero_le _, Nat.zero_le _⟩ rfl (Nat.le_of_ble_eq_true rfl) ?_
  refine r_if_ne C 22 dX11_of_17 (by decide)  (fun h17 => ?_) (fun h17 => ?_)
  · have hF := if_f h17 hF
    refine r_iload_n C 2 2 dX11_of_22 rfl rfl ?_
    by_cases h5 : a2 = (0 : Int32)
    · have hF := if_t h5 hF
      refine r_tabIn (off := 37) C 60 dX11_of_23 (by rw [h5]; decide) (by rw [h5]; decide) (by rw [h5]; rfl) (by decide) ?_
      refine r_aload_n C 0 0 dX11_of_60 rfl rfl ?_
      refine r_getR (kf := 0) (d2 := (41, 0, 0)) C dX11_of_61 rfl rfl f_X11 (by decide) t_5_56 rfl rfl ?_
      refine r_bipush (v := (96 : Int32)) C dX11_of_64 rfl ?_
      refine r_iload_n C 1 1 dX11_of_66 rfl rfl ?_
      refine r_iadd C dX11_of_67 ?_
      obtain ⟨h6, hF⟩ := ck_e hF
      refine r_iaload C (((96 : Int32) + a1).toNatClampNeg) dX11_of_68 rfl h6 rfl ?_
      exact r_ireturn C dX11_of_69 (rt_e hF)
    have hF := if_f h5 hF
    by_cases h7 : a2 = (1 : Int32)
    · have hF := if_t h7 hF
      refine r_tabIn (off := 47) C 70 dX11_of_23 (by rw [h7]; decide) (by rw [h7]; decide) (by rw [h7]; rfl) (by decide) ?_
      refine r_aload_n C 0 0 dX11_of_70 rfl rfl ?_
      refine r_getR (kf := 0) (d2 := (41, 0, 0)) C dX11_of_71 rfl rfl f_X11 (by decide) t_5_56 rfl rfl ?_
      refine r_bipush (v := (108 : Int32)) C dX11_of_74 rfl ?_
      refine r_iload_n C 1 1 dX11_of_76 rfl rfl ?_
      refine r_iadd C dX11_of_77 ?_
      obtain ⟨h8, hF⟩ := ck_e hF
      refine r_iaload C (((108 : Int32) + a1).toNatClampNeg) dX11_of_78 rfl h8 rfl ?_
      exact r_ireturn C dX11_of_79 (rt_e hF)
    have hF := if_f h7 hF
    by_cases h9 : a2 = (2 : Int32)
    · have hF := if_t h9 hF
      refine r_tabIn (off := 57) C 80 dX11_of_23 (by rw [h9]; decide) (by rw [h9]; decide) (by rw [h9]; rfl) (by decide) ?_
      refine r_aload_n C 0 0 dX11_of_80 rfl rfl ?_
      refine r_getR (kf := 0) (d2 := (41, 0, 0)) C dX11_of_81 rfl rfl f_X11 (by decide) t_5_56 rfl rfl ?_
      refine r_bipush (v := (120 : Int32)) C dX11_of_84 rfl ?_
      refine r_iload_n C 1 1 dX11_of_86 rfl rfl ?_
      refine r_iadd C dX11_of_87 ?_
      obtain ⟨h10, hF⟩ := ck_e hF
      refine r_iaload C (((120 : Int32) + a1).toNatClampNeg) dX11_of_88 rfl h10 rfl ?_
      exact r_ireturn C dX11_of_89 (rt_e hF)
    have hF := if_f h9 hF
    by_cases h11 : a2 = (3 : Int32)
    · have hF := if_t h11 hF
      refine r_tabIn (off := 67) C 90 dX11_of_23 (by rw [h11]; decide) (by rw [h11]; decide) (by rw [h11]; rfl) (by decide) ?_
      refine r_aload_n C 0 0 dX11_of_90 rfl rfl ?_
      refine r_getR (kf := 0) (d2 := (41, 0, 0)) C dX11_of_91 rfl rfl f_X11 (by decide) t_5_56 rfl rfl ?_
      refine r_sipush (v := (132 : Int32)) C dX11_of_94 rfl ?_
      refine r_iload_n C 1 1 dX11_of_97 rfl rfl ?_
      refine r_iadd C dX11_of_98 ?_
      obtain ⟨h12, hF⟩ := ck_e hF
      refine r_iaload C (((132 : Int32) + a1).toNatClampNeg) dX11_of_99 rfl h12 rfl ?_
      exact r_ireturn C dX11_of_100 (rt_e hF)
    have hF := if_f h11 hF
    by_cases h13 : a2 = (4 : Int32)
    · have hF := if_t h13 hF
      refine r_tabIn (off := 78) C 101 dX11_of_23 (by rw [h13]; decide) (by rw [h13]; decide) (by rw [h13]; rfl) (by decide) ?_
      refine r_aload_n C 0 0 dX11_of_101 rfl rfl ?_
      refine r_getR (kf := 0) (d2 := (41, 0, 0)) C dX11_of_102 rfl rfl f_X11 (by decide) t_5_56 rfl rfl ?_
      refine r_sipush (v := (144 : Int32)) C dX11_of_105 rfl ?_
      refine r_iload_n C 1 1 dX11_of_108 rfl rfl ?_
      refine r_iadd C dX11_of_109 ?_
      obtain ⟨h14, hF⟩ := ck_e hF
      refine r_iaload C (((144 : Int32) + a1).toNatClampNeg) dX11_of_110 rfl h14 rfl ?_
      exact r_ireturn C dX11_of_111 (rt_e hF)
    have hF := if_f h13 hF
    by_cases h15 : a2 = (5 : Int32)
    · have hF := if_t h15 hF
      refine r_tabIn (off := 89) C 112 dX11_of_23 (by rw [h15]; decide) (by rw [h15]; decide) (by rw [h15]; rfl) (by decide) ?_
      refine r_aload_n C 0 0 dX11_of_112 rfl rfl ?_
      refine r_getR (kf := 0) (d2 := (41, 0, 0)) C dX11_of_113 rfl rfl f_X11 (by decide) t_5_56 rfl rfl ?_
      refine r_sipush (v := (156 : Int32)) C dX11_of_116 rfl ?_
      refine r_iload_n C 1 1 dX11_of_119 rfl rfl ?_
      refine r_iadd C dX11_of_120 ?_
      obtain ⟨h16, hF⟩ := ck_e hF
      refine r_iaload C (((156 : Int32) + a1).toNatClampNeg) dX11_of_121 rfl h16 rfl ?_
      exact r_ireturn C dX11_of_122 (rt_e hF)
    have hF := if_f h15 hF
    refine r_tabOut C 123 dX11_of_23 (by have u0 := lv_neT h5 (a := 0) rfl; have u1 := lv_neT h7 (a := 1) rfl; have u2 := lv_neT h9 (a := 2) rfl; have u3 := lv_neT h11 (a := 3) rfl; have u4 := lv_neT h13 (a := 4) rfl; have u5 := lv_neT h15 (a := 5) rfl; omega) (by decide) ?_
    refine r_iconst (v := (-1 : Int32)) C dX11_of_123 rfl ?_
    exact r_ireturn C dX11_of_124 (rt_e hF)
  · have hF := if_t h17 hF
    refine r_iconst (v := (-1 : Int32)) C dX11_of_20 rfl ?_
    exact r_ireturn C dX11_of_21 (rt_e hF)
