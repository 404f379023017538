def k_X11p (σ : St) : St := (uI (uI (uI (uI (uR (uR (uR (uR (uRL (uRL (uR (uR (uR (uR (uR (uR (uR (uR σ (41, 0, 0) (fun _ => 0)) (42, 0, 0) (fun _ => 0)) (43, 0, 0) (fun _ => 0)) (44, 0, 0) (fun _ => 0)) (45, 0, 0) (fun _ => 0)) (46, 0, 0) (fun _ => 0)) (47, 0, 0) (fun _ => 0)) (48, 0, 0) (fun _ => 0)) (49, 0, 0) (fun _ => 0)) (50, 0, 0) (fun _ => 0)) (51, 0, 0) (fun _ => 0)) (52, 0, 0) (fun _ => 0)) (53, 0, 0) (fun _ => 0)) (54, 0, 0) (fun _ => 0)) (52, 0, 0) 0 (-4 : Int32)) (52, 0, 0) 1 (-4 : Int32)) (52, 0, 0) 2 (-4 : Int32)) (52, 0, 0) 3 (-4 : Int32))
set_option maxHeartbeats 4000000 in
set_option maxRecDepth 20000 in
theorem i_X11 (G : Gx) (z : Nat) (l : Launch) (σ : St) {σ1 σ2 : St} (e1 : F_X11_firstDraft (k_X11p σ) = some ((), σ1)) (e2 : F_X11_keepDraft σ1 = some ((), σ2)) : SpS G z l yX11_init cX11_init 2 none (rmC 1 14 1813) 96 94 [vR (40, 0, 0)] σ (va_Qv (fun b => b = σ2) (fun u => WdS G z 110 108 u) (AZ z)) 14 1813 := by
  refine SpS_of (own := RX11) (by decide) rfl (Nat.le_of_ble_eq_true rfl) ?_
  intro p e s m args below meth c C hI
  show Rs G z p l e (rmC 1 14 1813) s m args below meth c (MQ below _ args s 14 1813 (AZ z)) 2 0 0 96 94 0 [(0, vR (40, 0, 0))] [] σ
  refine s_aload_n C 0 0 dX11_init_0 rfl rfl ?_
  refine s_objInit C dX11_init_1 t_5_47 t_1_27 t_1_28 ⟨Nat.le_of_ble_eq_true rfl, Nat.le_of_ble_eq_true rfl⟩ ?_
  refine s_aload_n C 0 0 dX11_init_4 rfl rfl ?_
  refine s_sipush (v := (576 : Int32)) C dX11_init_5 rfl ?_
  refine s_newa (d := (41, 0, 0)) (ty := .int) C dX11_init_8 rfl rfl (by decide) rfl rfl rfl (fun _ h => h) t_1_55 ⟨by decide, by decide, by decide⟩ rfl (by decide) ⟨Nat.le_of_ble_eq_true rfl, Nat.le_of_ble_eq_true rfl⟩ ?_
  refine s_putR (i := 95) (kf := 0) (ty0 := tyX11) C hI dX11_init_10 rfl (by decide) rfl rfl f_X11 tyX11_ok nmX11 (by decide) t_5_56 rfl rfl rfl rfl rfl (fun _ => rfl) (fun _ => rfl) ?_
  refine s_aload_n C 0 0 dX11_init_13 rfl rfl ?_
  refine s_iconst (v := (2 : Int32)) C dX11_init_14 rfl ?_
  refine s_newa (d := (42, 0, 0)) (ty := .boolean) C dX11_init_15 rfl rfl (by decide) rfl rfl rfl (fun _ h => h) t_1_99 ⟨by decide, by decide, by decide⟩ rfl (by decide) ⟨Nat.le_of_ble_eq_true rfl, Nat.le_of_ble_eq_true rfl⟩ ?_
  refine s_putR (i := 95) (kf := 1) (ty0 := tyX11) C hI dX11_init_17 rfl (by decide) rfl rfl f_X11 tyX11_ok nmX11 (by decide) t_5_57 rfl rfl rfl rfl rfl (fun _ => rfl) (fun _ => rfl) ?_
  refine s_aload_n C 0 0 dX11_init_20 rfl rfl ?_
  refine s_bipush (v := (9 : Int32)) C dX11_init_21 rfl ?_
  refine s_newa (d := (43, 0, 0)) (ty := .int) C dX11_init_23 rfl rfl (by decide) rfl rfl rfl (fun _ h => h) t_1_55 ⟨by decide, by decide, by decide⟩ rfl (by decide) ⟨Nat.le_of_ble_eq_true rfl, Nat.le_of_ble_eq_true rfl⟩ ?_
  refine s_putR (i := 95) (kf := 2) (ty0 := tyX11) C hI dX11_init_25 rfl (by decide) rfl rfl f_X11 tyX11_ok nmX11 (by decide) t_5_58 rfl rfl rfl rfl rfl (fun _ => rfl) (fun _ => rfl) ?_
  refine s_aload_n C 0 0 dX11_init_28 rfl rfl ?_
  refine s_bipush (v := (9 : Int32)) C dX11_init_29 rfl ?_
  refine s_newa (d := (44, 0, 0)) (ty := .int) C dX11_init_31 rfl rfl (by decide) rfl rfl rfl (fun _ h => h) t_1_55 ⟨by decide, by decide, by decide⟩ rfl (by decide) ⟨Nat.le_of_ble_eq_true rfl, Nat.le_of_ble_eq_true rfl⟩ ?_
  refine s_putR (i := 95) (kf := 3) (ty0 := tyX11) C hI dX11_init_33 rfl (by decide) rfl rfl f_X11 tyX11_ok nmX11 (by decide) t_5_59 rfl rfl rfl rfl rfl (fun _ => rfl) (fun _ => rfl) ?_
  refine s_aload_n C 0 0 dX11_init_36 rfl rfl ?_
  refine s_bipush (v := (9 : Int32)) C dX11_init_37 rfl ?_
  refine s_newa (d := (45, 0, 0)) (ty := .boolean) C dX11_init_39 rfl rfl (by decide) rfl rfl rfl (fun _ h => h) t_1_99 ⟨by decide, by decide, by decide⟩ rfl (by decide) ⟨Nat.le_of_ble_eq_true rfl, Nat.le_of_ble_eq_true rfl⟩ ?_
  refine s_putR (i := 95) (kf := 4) (ty0 := tyX11) C hI dX11_init_41 rfl (by decide) rfl rfl f_X11 tyX11_ok nmX11 (by decide) t_5_60 rfl rfl rfl rfl rfl (fun _ => rfl) (fun _ => rfl) ?_
  refine s_aload_n C 0 0 dX11_init_44 rfl rfl ?_
  refine s_bipush (v := (96 : Int32)) C dX11_init_45 rfl ?_
  refine s_newa (d := (46, 0, 0)) (ty := .int) C dX11_init_47 rfl rfl (by decide) rfl rfl rfl (fun _ h => h) t_1_55 ⟨by decide, by decide, by decide⟩ rfl (by decide) ⟨Nat.le_of_ble_eq_true rfl, Nat.le_of_ble_eq_true rfl⟩ ?_
  refine s_putR (i := 95) (kf := 6) (ty0 := tyX11) C hI dX11_init_49 rfl (by decide) rfl rfl f_X11 tyX11_ok nmX11 (by decide) t_5_62 rfl rfl rfl rfl rfl (fun _ => rfl) (fun _ => rfl) ?_
  refine s_aload_n C 0 0 dX11_init_52 rfl rfl ?_
  refine s_sipush (v := (320 : Int32)) C dX11_init_53 rfl ?_
  refine s_newa (d := (47, 0, 0)) (ty := .int) C dX11_init_56 rfl rfl (by decide) rfl rfl rfl (fun _ h => h) t_1_55 ⟨by decide, by decide, by decide⟩ rfl (by decide) ⟨Nat.le_of_ble_eq_true rfl, Nat.le_of_ble_eq_true rfl⟩ ?_
  refine s_putR (i := 95) (kf := 7) (ty0 := tyX11) C hI dX11_init_58 rfl (by decide) rfl rfl f_X11 tyX11_ok nmX11 (by decide) t_5_63 rfl rfl rfl rfl rfl (fun _ => rfl) (fun _ => rfl) ?_
  refine s_aload_n C 0 0 dX11_init_61 rfl rfl ?_
  refine s_sipush (v := (384 : Int32)) C dX11_init_62 rfl ?_
  refine s_newa (d := (48, 0, 0)) (ty := .int) C dX11_init_65 rfl rfl (by decide) rfl rfl rfl (fun _ h => h) t_1_55 ⟨by decide, by decide, by decide⟩ rfl (by decide) ⟨Nat.le_of_ble_eq_true rfl, Nat.le_of_ble_eq_true rfl⟩ ?_
  refine s_putR (i := 95) (kf := 20) (ty0 := tyX11) C hI dX11_init_67 rfl (by decide) rfl rfl f_X11 tyX11_ok nmX11 (by decide) t_5_76 rfl rfl rfl rfl rfl (fun _ => rfl) (fun _ => rfl) ?_
  refine s_aload_n C 0 0 dX11_init_70 rfl rfl ?_
  refine s_bipush (v := (96 : Int32)) C dX11_init_71 rfl ?_
  refine s_newJ (d := (49, 0, 0)) C dX11_init_73 rfl rfl t_2_37 ⟨by decide, by decide, by decide⟩ rfl (by decide) ⟨Nat.le_of_ble_eq_true rfl, Nat.le_of_ble_eq_true rfl⟩ ?_
  refine s_putR (i := 95) (kf := 21) (ty0 := tyX11) C hI dX11_init_75 rfl (by decide) rfl rfl f_X11 tyX11_ok nmX11 (by decide) t_5_77 rfl rfl rfl rfl rfl (fun _ => rfl) (fun _ => rfl) ?_
  refine s_aload_n C 0 0 dX11_init_78 rfl rfl ?_
  refine s_bipush (v := (96 : Int32)) C dX11_init_79 rfl ?_
  refine s_newJ (d := (50, 0, 0)) C dX11_init_81 rfl rfl t_2_37 ⟨by decide, by decide, by decide⟩ rfl (by decide) ⟨Nat.le_of_ble_eq_true rfl, Nat.le_of_ble_eq_true rfl⟩ ?_
  refine s_putR (i := 95) (kf := 22) (ty0 := tyX11) C hI dX11_init_83 rfl (by decide) rfl rfl f_X11 tyX11_ok nmX11 (by decide) t_5_78 rfl rfl rfl rfl rfl (fun _ => rfl) (fun _ => rfl) ?_
  refine s_aload_n C 0 0 dX11_init_86 rfl rfl ?_
  refine s_bipush (v := (48 : Int32)) C dX11_init_87 rfl ?_
  refine s_newa (d := (51, 0, 0)) (ty := .int) C dX11_init_89 rfl rfl (by decide) rfl rfl rfl (fun _ h => h) t_1_55 ⟨by decide, by decide, by decide⟩ rfl (by decide) ⟨Nat.le_of_ble_eq_true rfl, Nat.le_of_ble_eq_true rfl⟩ ?_
  refine s_putR (i := 95) (kf := 24) (ty0 := tyX11) C hI dX11_init_91 rfl (by decide) rfl rfl f_X11 tyX11_ok nmX11 (by decide) t_5_80 rfl rfl rfl rfl rfl (fun _ => rfl) (fun _ => rfl) ?_
  refine s_aload_n C 0 0 dX11_init_94 rfl rfl ?_
  refine s_iconst (v := (4 : Int32)) C dX11_init_95 rfl ?_
  refine s_newa (d := (52, 0, 0)) (ty := .int) C dX11_init_96 rfl rfl (by decide) rfl rfl rfl (fun _ h => h) t_1_55 ⟨by decide, by decide, by decide⟩ rfl (by decide) ⟨Nat.le_of_ble_eq_true rfl, Nat.le_of_ble_eq_true rfl⟩ ?_
  refine s_putR (i := 95) (kf := 25) (ty0 := tyX11) C hI dX11_init_98 rfl (by decide) rfl rfl f_X11 tyX11_ok nmX11 (by decide) t_5_81 rfl rfl rfl rfl rfl (fun _ => rfl) (fun _ => rfl) ?_
  refine s_aload_n C 0 0 dX11_init_101 rfl rfl ?_
  refine s_iconst (v := (4 : Int32)) C dX11_init_102 rfl ?_
  refine s_newa (d := (53, 0, 0)) (ty := .int) C dX11_init_103 rfl rfl (by decide) rfl rfl rfl (fun _ h => h) t_1_55 ⟨by decide, by decide, by decide⟩ rfl (by decide) ⟨Nat.le_of_ble_eq_true rfl, Nat.le_of_ble_eq_true rfl⟩ ?_
  refine s_putR (i := 95) (kf := 26) (ty0 := tyX11) C hI dX11_init_105 rfl (by decide) rfl rfl f_X11 tyX11_ok nmX11 (by decide) t_5_82 rfl rfl rfl rfl rfl (fun _ => rfl) (fun _ => rfl) ?_
  refine s_aload_n C 0 0 dX11_init_108 rfl rfl ?_
  refine s_sipush (v := (160 : Int32)) C dX11_init_109 rfl ?_
  refine s_newa (d := (54, 0, 0)) (ty := .int) C dX11_init_112 rfl rfl (by decide) rfl rfl rfl (fun _ h => h) t_1_55 ⟨by decide, by decide, by decide⟩ rfl (by decide) ⟨Nat.le_of_ble_eq_true rfl, Nat.le_of_ble_eq_true rfl⟩ ?_
  refine s_putR (i := 95) (kf := 27) (ty0 := tyX11) C hI dX11_init_114 rfl (by decide) rfl rfl f_X11 tyX11_ok nmX11 (by decide) t_5_83 rfl rfl rfl rfl rfl (fun _ => rfl) (fun _ => rfl) ?_
  refine s_iconst (v := (0 : Int32)) C dX11_init_117 rfl ?_
  refine s_istore_n (ls2 := [(1, vI (0 : Int32)), (0, vR (40, 0, 0))]) C dX11_init_118 1 rfl (by decide) rfl ?_
  refine s_iload_n C 0 1 dX11_init_119 rfl rfl ?_
  refine s_iconst (v := (4 : Int32)) C dX11_init_120 rfl ?_
  refine s_geF C 138 dX11_init_121 (by decide) (by decide) ?_
  refine s_aload_n C 1 0 dX11_init_124 rfl rfl ?_
  refine s_getR (i := 95) (kf := 25) (d2 := (52, 0, 0)) C dX11_init_125 rfl (by decide) rfl rfl f_X11 (by decide) t_5_81 rfl (by decide +kernel) rfl ?_
  refine s_iload_n C 0 1 dX11_init_128 rfl rfl ?_
  refine s_bipush (v := (-4 : Int32)) C dX11_init_129 rfl ?_
  refine s_iast (i := 107) (j := 0) C dX11_init_131 rfl (by decide) rfl (by decide) (by decide) ?_
  refine s_iinc (v := (1 : Int32)) (ls2 := [(1, vI (1 : Int32)), (0, vR (40, 0, 0))]) C 0 dX11_init_132 rfl (by decide) (by decide) rfl ?_
  refine s_goto C 119 dX11_init_135 (by decide) ?_
  refine s_iload_n C 0 1 dX11_init_119 rfl rfl ?_
  refine s_iconst (v := (4 : Int32)) C dX11_init_120 rfl ?_
  refine s_geF C 138 dX11_init_121 (by decide) (by decide) ?_
  refine s_aload_n C 1 0 dX11_init_124 rfl rfl ?_
  refine s_getR (i := 95) (kf := 25) (d2 := (52, 0, 0)) C dX11_init_125 rfl (by decide) rfl rfl f_X11 (by decide) t_5_81 rfl (by decide +kernel) rfl ?_
  refine s_iload_n C 0 1 dX11_init_128 rfl rfl ?_
  refine s_bipush (v := (-4 : Int32)) C dX11_init_129 rfl ?_
  refine s_iast (i := 107) (j := 1) C dX11_init_131 rfl (by decide) rfl (by decide) (by decide) ?_
  refine s_iinc (v := (2 : Int32)) (ls2 := [(1, vI (2 : Int32)), (0, vR (40, 0, 0))]) C 0 dX11_init_132 rfl (by decide) (by decide) rfl ?_
  refine s_goto C 119 dX11_init_135 (by decide) ?_
  refine s_iload_n C 0 1 dX11_init_119 rfl rfl ?_
  refine s_iconst (v := (4 : Int32)) C dX11_init_120 rfl ?_
  refine s_geF C 138 dX11_init_121 (by decide) (by decide) ?_
  refine s_aload_n C 1 0 dX11_init_124 rfl rfl ?_
  refine s_getR (i := 95) (kf := 25) (d2 := (52, 0, 0)) C dX11_init_125 rfl (by decide) rfl rfl f_X11 (by decide) t_5_81 rfl (by decide +kernel) rfl ?_
  refine s_iload_n C 0 1 dX11_init_128 rfl rfl ?_
  refine s_bipush (v := (-4 : Int32)) C dX11_init_129 rfl ?_
  refine s_iast (i := 107) (j := 2) C dX11_init_131 rfl (by decide) rfl (by decide) (by decide) ?_
  refine s_iinc (v := (3 : Int32)) (ls2 := [(1, vI (3 : Int32)), (0, vR (40, 0, 0))]) C 0 dX11_init_132 rfl (by decide) (by decide) rfl ?_
  refine s_goto C 119 dX11_init_135 (by decide) ?_
  refine s_iload_n C 0 1 dX11_init_119 rfl rfl ?_
  refine s_iconst (v := (4 : Int32)) C dX11_init_120 rfl ?_
  refine s_geF C 138 dX11_init_121 (by decide) (by decide) ?_
  refine s_aload_n C 1 0 dX11_init_124 rfl rfl ?_
  refine s_getR (i := 95) (kf := 25) (d2 := (52, 0, 0)) C dX11_init_125 rfl (by decide) rfl rfl f_X11 (by decide) t_5_81 rfl (by decide +kernel) rfl ?_
  refine s_iload_n C 0 1 dX11_init_128 rfl rfl ?_
  refine s_bipush (v := (-4 : Int32)) C dX11_init_129 rfl ?_
  refine s_iast (i := 107) (j := 3) C dX11_init_131 rfl (by decide) rfl (by decide) (by decide) ?_
  refine s_iinc (v := (4 : Int32)) (ls2 := [(1, vI (4 : Int32)), (0, vR (40, 0, 0))]) C 0 dX11_init_132 rfl (by decide) (by decide) rfl ?_
  refine s_goto C 119 dX11_init_135 (by decide) ?_
  refine s_iload_n C 0 1 dX11_init_119 rfl rfl ?_
  refine s_iconst (v := (4 : Int32)) C dX11_init_120 rfl ?_
  refine s_geT C 138 dX11_init_121 (by decide) (by decide) ?_
  refine s_aload_n C 1 0 dX11_init_138 rfl rfl ?_
  refine s_callW (as := []) (st := []) (d := (40, 0, 0)) C dX11_init_139 (s_X11_firstDraft G l e1) (ok_c (fun _ => by decide) (fun v hv => by cases hv)) (by decide) rfl rfl t_5_48 t_5_50 t_s_21 t_1_14 t_5_51 m_X11_firstDraft ⟨Nat.le_of_ble_eq_true rfl, Nat.le_of_ble_eq_true rfl⟩ ⟨rfl, rfl⟩ ⟨Nat.le_of_ble_eq_true rfl, Nat.le_of_ble_eq_true rfl⟩ rfl rfl (Nat.le_of_ble_eq_true rfl) ?_
  refine s_aload_n C 1 0 dX11_init_142 rfl rfl ?_
  refine s_callW (as := []) (st := []) (d := (40, 0, 0)) C dX11_init_143 (s_X11_keepDraft G l e2) (ok_c (fun _ => by decide) (fun v hv => by cases hv)) (by decide) rfl rfl t_5_52 t_5_54 t_s_22 t_1_14 t_5_55 m_X11_keepDraft ⟨Nat.le_of_ble_eq_true rfl, Nat.le_of_ble_eq_true rfl⟩ ⟨rfl, rfl⟩ ⟨Nat.le_of_ble_eq_true rfl, Nat.le_of_ble_eq_true rfl⟩ rfl rfl (Nat.le_of_ble_eq_true rfl) ?_
  exact s_return C dX11_init_146 rfl rfl (by decide)
