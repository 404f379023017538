def F_X11_readNumber (a1 : Int32) (a2 : Int32) (σ : St) : Option (Int32 × St) :=
  nam (fun  (σ2 : St) => nam (fun  (σ4 : St) => nam (σ4.1 (40, 0, 0) 12) fun x5 => bd (F_X11_next  σ4) fun _ σ6 => some (x5, σ6)) fun k3 => (if (σ2.1 (40, 0, 0) 13) = 0 then bd (F_X11_in ((σ2.1 (40, 0, 0) 12).toInt64) (a1.toInt64) (a2.toInt64) σ2) fun r9 σ8 => bd (F_X11_needs r9 (3 : Int32) σ8) fun _ σ11 => k3  σ11 else k3  σ2)) fun k1 => (if (σ.1 (40, 0, 0) 13) = 0 then nam (fun (y14 : Int32) (σ16 : St) => bd (F_X11_needs y14 (2 : Int32) σ16) fun _ σ17 => k1  σ17) fun k15 => (if (σ.1 (40, 0, 0) 11) = (2 : Int32) then k15 (1 : Int32) σ else k15 (0 : Int32) σ) else k1  σ)
set_option maxRecDepth 20000 in
set_option maxHeartbeats 4000000 in
theorem s_X11_readNumber (G : Gx) (l : Launch) {a1 : Int32} {a2 : Int32} {σ σ' : St} {r : Int32} (hF : F_X11_readNumber a1 a2 σ = some (r, σ')) : Sp G l yX11_readNumber cX11_readNumber 4 (some .int) (lvl 2) [vR (40, 0, 0), vI a1, vI a2] σ (va_Qi (fun a b => a = r ∧ b = σ') (Wd G) (AG G)) := by
  refine Sp_of (own := RX11) (by decide) rfl (Nat.le_of_ble_eq_true rfl) ?_
  intro p e s m args below meth c C
  show Rt G p l e (lvl 2) s m args below meth c 0 0 (MQ below (va_Qi (fun a b => a = r ∧ b = σ') (Wd G) (AG G)) args s 0 0 (AG G)) 4 0 [(0, vR (40, 0, 0)), (1, vI a1), (2, vI a2)] [] σ
  unfold F_X11_readNumber at hF
  refine r_aload_n C 0 0 dX11_readNumber_0 rfl rfl ?_
  refine r_getI (kf := 13) C dX11_readNumber_1 rfl rfl f_X11 (by decide) t_5_69 rfl ?_
  obtain ⟨k1, ek1, hF⟩ := nam_e hF
  have hk1 : ∀  (σ2 : St), k1  σ2 = some (r, σ') → Rt G p l e (lvl 2) s m args below meth c 0 0 (MQ below (va_Qi (fun a b => a = r ∧ b = σ') (Wd G) (AG G)) args s 0 0 (AG G)) 4 25 [(0, vR (40, 0, 0)), (1, vI a1), (2, vI a2)] [] σ2 := by
    intro  σ2 hF
    subst ek1
    refine r_aload_n C 0 0 dX11_readNumber_25 rfl rfl ?_
    refine r_getI (kf := 13) C dX11_readNumber_26 rfl rfl f_X11 (by decide) t_5_69 rfl ?_
    obtain ⟨k3, ek3, hF⟩ := nam_e hF
    have hk3 : ∀  (σ4 : St), k3  σ4 = some (r, σ') → Rt G p l e (lvl 2) s m args below meth c 0 0 (MQ below (va_Qi (fun a b => a = r ∧ b = σ') (Wd G) (AG G)) args s 0 0 (AG G)) 4 49 [(0, vR (40, 0, 0))] [] σ4 := by
      intro  σ4 hF
      subst ek3
      refine r_aload_n C 0 0 dX11_readNumber_49 rfl rfl ?_
      refine r_getI (kf := 12) C dX11_readNumber_50 rfl rfl f_X11 (by decide) t_5_68 rfl ?_
      obtain ⟨x5, ex5, hF⟩ := nam_e hF
      refine r_topI ex5 ?_
      refine r_istore_n (ls2 := [(3, vI x5), (0, vR (40, 0, 0))]) C dX11_readNumber_53 3 rfl (by decide) rfl ?_
      refine r_aload_n C 1 0 dX11_readNumber_54 rfl rfl ?_
      obtain ⟨⟨⟩, σ6, e7, hF⟩ := bd_e hF
      refine r_callV_v (as := []) (st := []) C dX11_readNumber_55 (s_X11_next G l e7) rfl rfl rfl t_5_160 t_5_162 t_s_23 t_1_14 t_5_163 m_X11_next ⟨Nat.le_of_ble_eq_true rfl, Nat.le_of_ble_eq_true rfl⟩ ⟨rfl, rfl⟩ ⟨Nat.zero_le _, Nat.zero_le _⟩ rfl (Nat.le_of_ble_eq_true rfl) ?_
      refine r_iload_n C 0 3 dX11_readNumber_58 rfl rfl ?_
      exact r_ireturn C dX11_readNumber_59 (rt_e hF)
    refine r_if_ne C 49 dX11_readNumber_29 (by decide)  (fun h13 => ?_) (fun h13 => ?_)
    · have hF := if_f h13 hF
      refine r_drop (ls2 := [(0, vR (40, 0, 0))]) [0] rfl ?_
      exact hk3 _ hF
    · have hF := if_t h13 hF
      refine r_aload_n C 0 0 dX11_readNumber_32 rfl rfl ?_
      refine r_aload_n C 0 0 dX11_readNumber_33 rfl rfl ?_
      refine r_getI (kf := 12) C dX11_readNumber_34 rfl rfl f_X11 (by decide) t_5_68 rfl ?_
      refine r_i2l C dX11_readNumber_37 ?_
      refine r_iload_n C 1 1 dX11_readNumber_38 rfl rfl ?_
      refine r_i2l C dX11_readNumber_39 ?_
      refine r_iload_n C 2 2 dX11_readNumber_40 rfl rfl ?_
      refine r_i2l C dX11_readNumber_41 ?_
      obtain ⟨r9, σ8, e10, hF⟩ := bd_e hF
      refine r_callS_i (as := [vL ((σ2.1 (40, 0, 0) 12).toInt64), vL (a1.toInt64), vL (a2.toInt64)]) (st := [vR (40, 0, 0)]) C dX11_readNumber_42 (s_X11_in G l e10) t_5_153 t_5_154 t_1_14 t_5_155 m_X11_in ⟨Nat.le_of_ble_eq_true rfl, Nat.le_of_ble_eq_true rfl⟩ ⟨rfl, rfl⟩ ⟨Nat.zero_le _, Nat.zero_le _⟩ rfl (Nat.le_of_ble_eq_true rfl) ?_
      refine r_iconst (v := (3 : Int32)) C dX11_readNumber_45 rfl ?_
      obtain ⟨⟨⟩, σ11, e12, hF⟩ := bd_e hF
      refine r_callV_v (as := [vI r9, vI (3 : Int32)]) (st := []) C dX11_readNumber_46 (s_X11_needs G l e12) rfl rfl rfl t_5_172 t_5_174 t_s_25 t_1_14 t_5_175 m_X11_needs ⟨Nat.le_of_ble_eq_true rfl, Nat.le_of_ble_eq_true rfl⟩ ⟨rfl, rfl⟩ ⟨Nat.zero_le _, Nat.zero_le _⟩ rfl (Nat.le_of_ble_eq_true rfl) ?_
      refine r_drop (ls2 := [(0, vR (40, 0, 0))]) [0] rfl ?_
      exact hk3 _ hF
  refine r_if_ne C 25 dX11_readNumber_4 (by decide)  (fun h20 => ?_) (fun h20 => ?_)
  · have hF := if_f h20 hF
    exact hk1 _ hF
  · have hF := if_t h20 hF
    refine r_aload_n C 0 0 dX11_readNumber_7 rfl rfl ?_
    refine r_aload_n C 0 0 dX11_readNumber_8 rfl rfl ?_
    refine r_getI (kf := 11) C dX11_readNumber_9 rfl rfl f_X11 (by decide) t_5_67 rfl ?_
    refine r_iconst (v := (2 : Int32)) C dX11_readNumber_12 rfl ?_
    obtain ⟨k15, ek15, hF⟩ := nam_e hF
    have hk15 : ∀ (y14 : Int32) (σ16 : St), k15 y14 σ16 = some (r, σ') → Rt G p l e (lvl 2) s m args below meth c 0 0 (MQ below (va_Qi (fun a b => a = r ∧ b = σ') (Wd G) (AG G)) args s 0 0 (AG G)) 4 21 [(0, vR (40, 0, 0)), (1, vI a1), (2, vI a2)] [vI y14, vR (40, 0, 0)] σ16 := by
      intro y14 σ16 hF
      subst ek15
      refine r_iconst (v := (2 : Int32)) C dX11_readNumber_21 rfl ?_
      obtain ⟨⟨⟩, σ17, e18, hF⟩ := bd_e hF
      refine r_callV_v (as := [vI y14, vI (2 : Int32)]) (st := []) C dX11_readNumber_22 (s_X11_needs G l e18) rfl rfl rfl t_5_172 t_5_174 t_s_25 t_1_14 t_5_175 m_X11_needs ⟨Nat.le_of_ble_eq_true rfl, Nat.le_of_ble_eq_true rfl⟩ ⟨rfl, rfl⟩ ⟨Nat.zero_le _, Nat.zero_le _⟩ rfl (Nat.le_of_ble_eq_true rfl) ?_
      exact hk1 _ hF
    refine r_icmp_ne C 20 dX11_readNumber_13 (by decide)  (fun h19 => ?_) (fun h19 => ?_)
    · have hF := if_f h19 hF
      refine r_iconst (v := (0 : Int32)) C dX11_readNumber_20 rfl ?_
      exact hk15 _ _ hF
    · have hF := if_t h19 hF
      refine r_iconst (v := (1 : Int32)) C dX11_readNumber_16 rfl ?_
      refine r_goto C 21 dX11_readNumber_17 (by decide) ?_
      exact hk15 _ _ hF
def F_X11_kindOf (a0 : Int32) (σ : St) : Option (Int32 × St) :=
  (if a0 = (99 : Int32) then some ((7 : Int32), σ) else (if a0 = (101 : Int32) then some ((1 : Int32), σ) else (if a0 = (110 : Int32) then some ((0 : Int32), σ) else (if a0 = (111 : Int32) then some ((6 : Int32), σ) else (if a0 = (112 : Int32) then some ((4 : Int32), σ) else (if a0 = (115 : Int32) then some ((2 : Int32), σ) else (if a0 = (119 : Int32) then some ((3 : Int32), σ) else (if a0 = (120 : Int32) then some ((5 : Int32), σ) else (if a0 = (100 : Int32) then some ((-4 : Int32), σ) else (if a0 = (102 : Int32) then some ((-4 : Int32), σ) else (if a0 = (103 : Int32) then some ((-4 : Int32), σ) else (if a0 = (104 : Int32) then some ((-4 : Int32), σ) else (if a0 = (105 : Int32) then some ((-4 : Int32), σ) else (if a0 = (106 : Int32) then some ((-4 : Int32), σ) else (if a0 = (107 : Int32) then some ((-4 : Int32), σ) else (if a0 = (108 : Int32) then some ((-4 : Int32), σ) else (if a0 = (109 : Int32) then some ((-4 : Int32), σ) else (if a0 = (113 : Int32) then some ((-4 : Int32), σ) else (if a0 = (114 : Int32) then some ((-4 : Int32), σ) else (if a0 = (116 : Int32) then some ((-4 : Int32), σ) else (if a0 = (117 : Int32) then some ((-4 : Int32), σ) else (if a0 = (118 : Int32) then some ((-4 : Int32), σ) else some ((-4 : Int32), σ)))))))))))))))))))))))
set_option maxRecDepth 20000 in
set_option maxHeartbeats 4000000 in
theorem s_X11_kindOf (G : Gx) (l : Launch) {a0 : Int32} {σ σ' : St} {r : Int32} (hF : F_X11_kindOf a0 σ = some (r, σ')) : Sp G l yX11_kindOf cX11_kindOf 1 (some .int) (lvl 0) [vI a0] σ (va_Qi (fun a b => a = r ∧ b = σ') (Wd G) (AG G)) := by
  refine Sp_of (own := RX11) (by decide) rfl (Nat.le_of_ble_eq_true rfl) ?_
  intro p e s m args below meth c C
  show Rt G p l e (lvl 0) s m args below meth c 0 0 (MQ below (va_Qi (fun a b => a = r ∧ b = σ') (Wd G) (AG G)) args s 0 0 (AG G)) 1 0 [(0, vI a0)] [] σ
  unfold F_X11_kindOf at hF
  refine r_iload_n C 0 0 dX11_kindOf_0 rfl rfl ?_
  by_cases h1 : a0 = (99 : Int32)
  · have hF := if_t h1 hF
    refine r_tabIn (off := 118) C 119 dX11_kindOf_1 (by rw [h1]; decide) (by rw [h1]; decide) (by rw [h1]; rfl) (by decide) ?_
    refine r_bipush (v := (7 : Int32)) C dX11_kindOf_119 rfl ?_
    exact r_ireturn C dX11_kindOf_121 (rt_e hF)
  have hF := if_f h1 hF
  by_cases h2 : a0 = (101 : Int32)
  · have hF := if_t h2 hF
    refine r_tabIn (off := 105) C 106 dX11_kindOf_1 (by rw [h2]; decide) (by rw [h2]; decide) (by rw [h2]; rfl) (by decide) ?_
    refine r_iconst (v := (1 : Int32)) C dX11_kindOf_106 rfl ?_
    exact r_ireturn C dX11_kindOf_107 (rt_e hF)
  have hF := if_f h2 hF
  by_cases h3 : a0 = (110 : Int32)
  · have hF := if_t h3 hF
    refine r_tabIn (off := 103) C 104 dX11_kindOf_1 (by rw [h3]; decide) (by rw [h3]; decide) (by rw [h3]; rfl) (by decide) ?_
    refine r_iconst (v := (0 : Int32)) C dX11_kindOf_104 rfl ?_
    exact r_ireturn C dX11_kindOf_105 (rt_e hF)
  have hF := if_f h3 hF
  by_cases h4 : a0 = (111 : Int32)
  · have hF := if_t h4 hF
    refine r_tabIn (off := 115) C 116 dX11_kindOf_1 (by rw [h4]; decide) (by rw [h4]; decide) (by rw [h4]; rfl) (by decide) ?_
    refine r_bipush (v := (6 : Int32)) C dX11_kindOf_116 rfl ?_
    exact r_ireturn C dX11_kindOf_118 (rt_e hF)
  have hF := if_f h4 hF
  by_cases h5 : a0 = (112 : Int32)
  · have hF := if_t h5 hF
    refine r_tabIn (off := 111) C 112 dX11_kindOf_1 (by rw [h5]; decide) (by rw [h5]; decide) (by rw [h5]; rfl) (by decide) ?_
    refine r_iconst (v := (4 : Int32)) C dX11_kindOf_112 rfl ?_
    exact r_ireturn C dX11_kindOf_113 (rt_e hF)
  have hF := if_f h5 hF
  by_cases h6 : a0 = (115 : Int32)
  · have hF := if_t h6 hF
    refine r_tabIn (off := 107) C 108 dX11_kindOf_1 (by rw [h6]; decide) (by rw [h6]; decide) (by rw [h6]; rfl) (by decide) ?_
    refine r_iconst (v := (2 : Int32)) C dX11_kindOf_108 rfl ?_
    exact r_ireturn C dX11_kindOf_109 (rt_e hF)
  have hF := if_f h6 hF
  by_cases h7 : a0 = (119 : Int32)
  · have hF := if_t h7 hF
    refine r_tabIn (off := 109) C 110 dX11_kindOf_1 (by rw [h7]; decide) (by rw [h7]; decide) (by rw [h7]; rfl) (by decide) ?_
    refine r_iconst (v := (3 : Int32)) C dX11_kindOf_110 rfl ?_
    exact r_ireturn C dX11_kindOf_111 (rt_e hF)
  have hF := if_f h7 hF
  by_cases h8 : a0 = (120 : Int32)
  · have hF := if_t h8 hF
    refine r_tabIn (off := 113) C 114 dX11_kindOf_1 (by rw [h8]; decide) (by rw [h8]; decide) (by rw [h8]; rfl) (by decide) ?_
    refine r_iconst (v := (5 : Int32)) C dX11_kindOf_114 rfl ?_
    exact r_ireturn C dX11_kindOf_115 (rt_e hF)
  have hF := if_f h8 hF
  by_cases h9 : a0 = (100 : Int32)
  · have hF := if_t h9 hF
    refine r_tabIn (off := 121) C 122 dX11_kindOf_1 (by rw [h9]; decide) (by rw [h9]; decide) (by rw [h9]; rfl) (by decide) ?_
    refine r_bipush (v := (-4 : Int32)) C dX11_kindOf_122 rfl ?_
    exact r_ireturn C dX11_kindOf_124 (rt_e hF)
  have hF := if_f h9 hF
  by_cases h10 : a0 = (102 : Int32)
  · have hF := if_t h10 hF
    refine r_tabIn (off := 121) C 122 dX11_kindOf_1 (by rw [h10]; decide) (by rw [h10]; decide) (by rw [h10]; rfl) (by decide) ?_
    refine r_bipush (v := (-4 : Int32)) C dX11_kindOf_122 rfl ?_
    exact r_ireturn C dX11_kindOf_124 (rt_e hF)
  have hF := if_f h10 hF
  by_cases h11 : a0 = (103 : Int32)
  · have hF := if_t h11 hF
    refine r_tabIn (off := 121) C 122 dX11_kindOf_1 (by rw [h11]; decide) (by rw [h11]; decide) (by rw [h11]; rfl) (by decide) ?_
    refine r_bipush (v := (-4 : Int32)) C dX11_kindOf_122 rfl ?_
    exact r_ireturn C dX11_kindOf_124 (rt_e hF)
  have hF := if_f h11 hF
  by_cases h12 : a0 = (104 : Int32)
  · have hF := if_t h12 hF
    refine r_tabIn (off := 121) C 122 dX11_kindOf_1 (by rw [h12]; decide) (by rw [h12]; decide) (by rw [h12]; rfl) (by decide) ?_
    refine r_bipush (v := (-4 : Int32)) C dX11_kindOf_122 rfl ?_
    exact r_ireturn C dX11_kindOf_124 (rt_e hF)
  have hF := if_f h12 hF
  by_cases h13 : a0 = (105 : Int32)
  · have hF := if_t h13 hF
    refine r_tabIn (off := 121) C 122 dX11_kindOf_1 (by rw [h13]; decide) (by rw [h13]; decide) (by rw [h13]; rfl) (by decide) ?_
    refine r_bipush (v := (-4 : Int32)) C dX11_kindOf_122 rfl ?_
    exact r_ireturn C dX11_kindOf_124 (rt_e hF)
  have hF := if_f h13 hF
  by_cases h14 : a0 = (106 : Int32)
  · have hF := if_t h14 hF
    refine r_tabIn (off := 121) C 122 dX11_kindOf_1 (by rw [h14]; decide) (by rw [h14]; decide) (by rw [h14]; rfl) (by decide) ?_
    refine r_bipush (v := (-4 : Int32)) C dX11_kindOf_122 rfl ?_
    exact r_ireturn C dX11_kindOf_124 (rt_e hF)
  have hF := if_f h14 hF
  by_cases h15 : a0 = (107 : Int32)
  · have hF := if_t h15 hF
    refine r_tabIn (off := 121) C 122 dX11_kindOf_1 (by rw [h15]; decide) (by rw [h15]; decide) (by rw [h15]; rfl) (by decide) ?_
    refine r_bipush (v := (-4 : Int32)) C dX11_kindOf_122 rfl ?_
    exact r_ireturn C dX11_kindOf_124 (rt_e hF)
  have hF := if_f h15 hF
  by_cases h16 : a0 = (108 : Int32)
  · have hF := if_t h16 hF
    refine r_tabIn (off := 121) C 122 dX11_kindOf_1 (by rw [h16]; decide) (by rw [h16]; decide) (by rw [h16]; rfl) (by decide) ?_
    refine r_bipush (v := (-4 : Int32)) C dX11_kindOf_122 rfl ?_
    exact r_ireturn C dX11_kindOf_124 (rt_e hF)
  have hF := if_f h16 hF
  by_cases h17 : a0 = (109 : Int32)
  · have hF := if_t h17 hF
    refine r_tabIn (off := 121) C 122 dX11_kindOf_1 (by rw [h17]; decide) (by rw [h17]; decide) (by rw [h17]; rfl) (by decide) ?_
    refine r_bipush (v := (-4 : Int32)) C dX11_kindOf_122 rfl ?_
    exact r_ireturn C dX11_kindOf_124 (rt_e hF)
  have hF := if_f h17 hF
  by_cases h18 : a0 = (113 : Int32)
  · have hF := if_t h18 hF
    refine r_tabIn (off := 121) C 122 dX11_kindOf_1 (by rw [h18]; decide) (by rw [h18]; decide) (by rw [h18]; rfl) (by decide) ?_
    refine r_bipush (v := (-4 : Int32)) C dX11_kindOf_122 rfl ?_
    exact r_ireturn C dX11_kindOf_124 (rt_e hF)
  have hF := if_f h18 hF
  by_cases h19 : a0 = (114 : Int32)
  · have hF := if_t h19 hF
    refine r_tabIn (off := 121) C 122 dX11_kindOf_1 (by rw [h19]; decide) (by rw [h19]; decide) (by rw [h19]; rfl) (by decide) ?_
    refine r_bipush (v := (-4 : Int32)) C dX11_kindOf_122 rfl ?_
    exact r_ireturn C dX11_kindOf_124 (rt_e hF)
  have hF := if_f h19 hF
  by_cases h20 : a0 = (116 : Int32)
  · have hF := if_t h20 hF
    refine r_tabIn (off := 121) C 122 dX11_kindOf_1 (by rw [h20]; decide) (by rw [h20]; decide) (by rw [h20]; rfl) (by decide) ?_
    refine r_bipush (v := (-4 : Int32)) C dX11_kindOf_122 rfl ?_
    exact r_ireturn C dX11_kindOf_124 (rt_e hF)
  have hF := if_f h20 hF
  by_cases h21 : a0 = (117 : Int32)
  · have hF := if_t h21 hF
    refine r_tabIn (off := 121) C 122 dX11_kindOf_1 (by rw [h21]; decide) (by rw [h21]; decide) (by rw [h21]; rfl) (by decide) ?_
    refine r_bipush (v := (-4 : Int32)) C dX11_kindOf_122 rfl ?_
    exact r_ireturn C dX11_kindOf_124 (rt_e hF)
  have hF := if_f h21 hF
  by_cases h22 : a0 = (118 : Int32)
  · have hF := if_t h22 hF
    refine r_tabIn (off := 121) C 122 dX11_kindOf_1 (by rw [h22]; decide) (by rw [h22]; decide) (by rw [h22]; rfl) (by decide) ?_
    refine r_bipush (v := (-4 : Int32)) C dX11_kindOf_122 rfl ?_
    exact r_ireturn C dX11_kindOf_124 (rt_e hF)
  have hF := if_f h22 hF
  refine r_tabOut C 122 dX11_kindOf_1 (by have u0 := lv_neT h1 (a := 99) rfl; have u1 := lv_neT h2 (a := 101) rfl; have u2 := lv_neT h3 (a := 110) rfl; have u3 := lv_neT h4 (a := 111) rfl; have u4 := lv_neT h5 (a := 112) rfl; have u5 := lv_neT h6 (a := 115) rfl; have u6 := lv_neT h7 (a := 119) rfl; have u7 := lv_neT h8 (a := 120) rfl; have u8 := lv_neT h9 (a := 100) rfl; have u9 := lv_neT h10 (a := 102) rfl; have u10 := lv_neT h11 (a := 103) rfl; have u11 := lv_neT h12 (a := 104) rfl; have u12 := lv_neT h13 (a := 105) rfl; have u13 := lv_neT h14 (a := 106) rfl; have u14 := lv_neT h15 (a := 107) rfl; have u15 := lv_neT h16 (a := 108) rfl; have u16 := lv_neT h17 (a := 109) rfl; have u17 := lv_neT h18 (a := 113) rfl; have u18 := lv_neT h19 (a := 114) rfl; have u19 := lv_neT h20 (a := 116) rfl; have u20 := lv_neT h21 (a := 117) rfl; have u21 := lv_neT h22 (a := 118) rfl; omega) (by decide) ?_
  refine r_bipush (v := (-4 : Int32)) C dX11_kindOf_122 rfl ?_
  exact r_ireturn C dX11_kindOf_124 (rt_e hF)
def L_X11_readRow_58  : Nat → Int32 → St → (St → Option (Unit × St)) → Option (Unit × St)
  | 0, _, _, _ => none
  | n + 1, v1, τ, kx132 =>
  (if (12 : Int32) ≤ v1 then kx132  τ else (if (τ.1 (40, 0, 0) 13) = 0 then bd (F_X11_look ((τ.1 (40, 0, 0) 10) + v1) τ) fun r6 σ5 => bd (F_X11_kindOf r6 σ5) fun r9 σ8 => nam (fun (y11 : Int32) (σ13 : St) => bd (F_X11_needs y11 (3 : Int32) σ13) fun _ σ14 => nam (fun (y16 : Int32) (σ18 : St) => ck (inb (((12 : Int32) * (σ14.1 (40, 0, 0) 5)) + v1) 96) (nam (uI σ18 (46, 0, 0) ((((12 : Int32) * (σ14.1 (40, 0, 0) 5)) + v1).toNatClampNeg) y16) fun σ20 => nam (v1 + (1 : Int32)) fun x21 => L_X11_readRow_58 n x21 σ20 kx132)) fun k17 => (if r9 = (-4 : Int32) then k17 (4 : Int32) σ14 else k17 r9 σ14)) fun k12 => (if r9 = (-4 : Int32) then k12 (0 : Int32) σ8 else k12 (1 : Int32) σ8) else kx132  τ))
def F_X11_readRow  (σ : St) : Option (Unit × St) :=
  nam (fun  (σ2 : St) => nam (fun  (σ4 : St) => L_X11_readRow_58  FU (0 : Int32) σ4 (fun  (σ26 : St) => nam (fun (y27 : Int32) (σ29 : St) => bd (F_X11_flag y27 σ29) fun r31 σ30 => nam (uI σ30 (40, 0, 0) 5 ((σ26.1 (40, 0, 0) 5) + r31)) fun σ33 => bd (F_X11_next  σ33) fun _ σ34 => some ((), σ34)) fun k28 => (if (σ26.1 (40, 0, 0) 13) = 0 then k28 (1 : Int32) σ26 else k28 (0 : Int32) σ26))) fun k3 => (if (σ2.1 (40, 0, 0) 13) = 0 then nam (fun (y37 : Int32) (σ39 : St) => bd (F_X11_needs y37 (3 : Int32) σ39) fun _ σ40 => k3  σ40) fun k38 => (if ((σ2.1 (40, 0, 0) 9) - (σ2.1 (40, 0, 0) 10)) = (12 : Int32) then k38 (1 : Int32) σ2 else k38 (0 : Int32) σ2) else k3  σ2)) fun k1 => (if (σ.1 (40, 0, 0) 13) = 0 then nam (fun (y44 : Int32) (σ46 : St) => bd (F_X11_needs y44 (2 : Int32) σ46) fun _ σ47 => k1  σ47) fun k45 => (if (σ.1 (40, 0, 0) 11) = (1 : Int32) then k45 (1 : Int32) σ else k45 (0 : Int32) σ) else k1  σ)
set_option maxRecDepth 20000 in
set_option maxHeartbeats 4000000 in
theorem l_X11_readRow_58 {G : Gx} {p : Program} {l : Launch} {e : Env} {s : State} {m : MethodId} {args : Array Value} {below : List Frame} {meth : Method} {c : Code} (C : Cx G p s m args meth c none 3 RX11 cX11_readRow)  {σ' : St}  (kx132 : St → Option (Unit × St)) (hkx132 : ∀  (τ : St), kx132  τ = some ((), σ') → Rt G p l e (lvl 2) s m args below meth c 0 0 (MQ below (va_Qv (fun b => b = σ') (Wd G) (AG G)) args s 0 0 (AG G)) 3 132 [(0, vR (40, 0, 0))] [] τ) : ∀ (n : Nat) (v1 : Int32) (τ : St), L_X11_readRow_58  n v1 τ kx132 = some ((), σ') → Rt G p l e (lvl 2) s m args below meth c 0 0 (MQ below (va_Qv (fun b => b = σ') (Wd G) (AG G)) args s 0 0 (AG G)) 3 58 [(0, vR (40, 0, 0)), (1, vI v1)] [] τ := by
  intro n
  induction n with
  | zero => intro v1 τ hF; cases hF
  | succ n ih =>
    intro v1 τ hF
    unfold L_X11_readRow_58 at hF
    refine r_iload_n C 1 1 dX11_readRow_58 rfl rfl ?_
    refine r_bipush (v := (12 : Int32)) C dX11_readRow_59 rfl ?_
    refine r_icmp_ge C 132 dX11_readRow_61 (by decide)  (fun h25 => ?_) (fun h25 => ?_)
    · have hF := if_t h25 hF
      refine r_drop (ls2 := [(0, vR (40, 0, 0))]) [0] rfl ?_
      exact hkx132 _ hF
    · have hF := if_f h25 hF
      refine r_aload_n C 0 0 dX11_readRow_64 rfl rfl ?_
      refine r_getI (kf := 13) C dX11_readRow_65 rfl rfl f_X11 (by decide) t_5_69 rfl ?_
      refine r_if_ne C 132 dX11_readRow_68 (by decide)  (fun h24 => ?_) (fun h24 => ?_)
      · have hF := if_f h24 hF
        refine r_drop (ls2 := [(0, vR (40, 0, 0))]) [0] rfl ?_
        exact hkx132 _ hF
      · have hF := if_t h24 hF
        refine r_aload_n C 0 0 dX11_readRow_71 rfl rfl ?_
        refine r_aload_n C 0 0 dX11_readRow_72 rfl rfl ?_
        refine r_getI (kf := 10) C dX11_readRow_73 rfl rfl f_X11 (by decide) t_5_66 rfl ?_
        refine r_iload_n C 1 1 dX11_readRow_76 rfl rfl ?_
        refine r_iadd C dX11_readRow_77 ?_
        obtain ⟨r6, σ5, e7, hF⟩ := bd_e hF
        refine r_callV_i (as := [vI ((τ.1 (40, 0, 0) 10) + v1)]) (st := []) C dX11_readRow_78 (s_X11_look G l e7) rfl rfl rfl t_5_164 t_5_166 t_s_24 t_1_14 t_5_167 m_X11_look ⟨Nat.le_of_ble_eq_true rfl, Nat.le_of_ble_eq_true rfl⟩ ⟨rfl, rfl⟩ ⟨Nat.zero_le _, Nat.zero_le _⟩ rfl (Nat.le_of_ble_eq_true rfl) ?_
        obtain ⟨r9, σ8, e10, hF⟩ := bd_e hF
        refine r_callS_i (as := [vI r6]) (st := []) C dX11_readRow_81 (s_X11_kindOf G l e10) t_5_192 t_5_193 t_1_14 t_5_194 m_X11_kindOf ⟨Nat.le_of_ble_eq_true rfl, Nat.le_of_ble_eq_true rfl⟩ ⟨rfl, rfl⟩ ⟨Nat.zero_le _, Nat.zero_le _⟩ rfl (Nat.le_of_ble_eq_true rfl) ?_
        refine r_istore_n (ls2 := [(2, vI r9), (0, vR (40, 0, 0)), (1, vI v1)]) C dX11_readRow_84 2 rfl (by decide) rfl ?_
        refine r_aload_n C 1 0 dX11_readRow_85 rfl rfl ?_
        refine r_iload_n C 0 2 dX11_readRow_86 rfl rfl ?_
        refine r_bipush (v := (-4 : Int32)) C dX11_readRow_87 rfl ?_
        obtain ⟨k12, ek12, hF⟩ := nam_e hF
        have hk12 : ∀ (y11 : Int32) (σ13 : St), k12 y11 σ13 = some ((), σ') → Rt G p l e (lvl 2) s m args below meth c 0 0 (MQ below (va_Qv (fun b => b = σ') (Wd G) (AG G)) args s 0 0 (AG G)) 3 97 [(0, vR (40, 0, 0)), (1, vI v1), (2, vI r9)] [vI y11, vR (40, 0, 0)] σ13 := by
          intro y11 σ13 hF
          subst ek12
          refine r_iconst (v := (3 : Int32)) C dX11_readRow_97 rfl ?_
          obtain ⟨⟨⟩, σ14, e15, hF⟩ := bd_e hF
          refine r_callV_v (as := [vI y11, vI (3 : Int32)]) (st := []) C dX11_readRow_98 (s_X11_needs G l e15) rfl rfl rfl t_5_172 t_5_174 t_s_25 t_1_14 t_5_175 m_X11_needs ⟨Nat.le_of_ble_eq_true rfl, Nat.le_of_ble_eq_true rfl⟩ ⟨rfl, rfl⟩ ⟨Nat.zero_le _, Nat.zero_le _⟩ rfl (Nat.le_of_ble_eq_true rfl) ?_
          refine r_aload_n C 0 0 dX11_readRow_101 rfl rfl ?_
          refine r_getR (kf := 6) (d2 := (46, 0, 0)) C dX11_readRow_102 rfl rfl f_X11 (by decide) t_5_62 rfl rfl ?_
          refine r_bipush (v := (12 : Int32)) C dX11_readRow_105 rfl ?_
          refine r_aload_n C 0 0 dX11_readRow_107 rfl rfl ?_
          refine r_getI (kf := 5) C dX11_readRow_108 rfl rfl f_X11 (by decide) t_5_61 rfl ?_
          refine r_imul C dX11_readRow_111 ?_
          refine r_iload_n C 1 1 dX11_readRow_112 rfl rfl ?_
          refine r_iadd C dX11_readRow_113 ?_
          refine r_iload_n C 2 2 dX11_readRow_114 rfl rfl ?_
          refine r_bipush (v := (-4 : Int32)) C dX11_readRow_115 rfl ?_
          obtain ⟨k17, ek17, hF⟩ := nam_e hF
          have hk17 : ∀ (y16 : Int32) (σ18 : St), k17 y16 σ18 = some ((), σ') → Rt G p l e (lvl 2) s m args below meth c 0 0 (MQ below (va_Qv (fun b => b = σ') (Wd G) (AG G)) args s 0 0 (AG G)) 3 125 [(0, vR (40, 0, 0)), (1, vI v1)] [vI y16, vI (((12 : Int32) * (σ14.1 (40, 0, 0) 5)) + v1), vR (46, 0, 0)] σ18 := by
            intro y16 σ18 hF
            subst ek17
            obtain ⟨h19, hF⟩ := ck_e hF
            obtain ⟨σ20, eσ20, hF⟩ := nam_e hF
            refine r_iastore C ((((12 : Int32) * (σ14.1 (40, 0, 0) 5)) + v1).toNatClampNeg) dX11_readRow_125 rfl h19 rfl eσ20 ?_
            obtain ⟨x21, ex21, hF⟩ := nam_e hF
            refine r_iinc (v := x21) (ls2 := [(1, vI x21), (0, vR (40, 0, 0))]) C 1 dX11_readRow_126 rfl ex21.symm (by decide) rfl ?_
            refine r_goto C 58 dX11_readRow_129 (by decide) ?_
            refine r_drop (ls2 := [(0, vR (40, 0, 0)), (1, vI x21)]) [1, 0] rfl ?_
            exact ih _ _ hF
          refine r_icmp_ne C 124 dX11_readRow_117 (by decide)  (fun h22 => ?_) (fun h22 => ?_)
          · have hF := if_f h22 hF
            refine r_iload_n C 2 2 dX11_readRow_124 rfl rfl ?_
            refine r_drop (ls2 := [(0, vR (40, 0, 0)), (1, vI v1)]) [0, 1] rfl ?_
            exact hk17 _ _ hF
          · have hF := if_t h22 hF
            refine r_iconst (v := (4 : Int32)) C dX11_readRow_120 rfl ?_
            refine r_goto C 125 dX11_readRow_121 (by decide) ?_
            refine r_drop (ls2 := [(0, vR (40, 0, 0)), (1, vI v1)]) [0, 1] rfl ?_
            exact hk17 _ _ hF
        refine r_icmp_eq C 96 dX11_readRow_89 (by decide)  (fun h23 => ?_) (fun h23 => ?_)
        · have hF := if_t h23 hF
          refine r_iconst (v := (0 : Int32)) C dX11_readRow_96 rfl ?_
          refine r_drop (ls2 := [(0, vR (40, 0, 0)), (1, vI v1), (2, vI r9)]) [1, 2, 0] rfl ?_
          exact hk12 _ _ hF
        · have hF := if_f h23 hF
          refine r_iconst (v := (1 : Int32)) C dX11_readRow_92 rfl ?_
          refine r_goto C 97 dX11_readRow_93 (by decide) ?_
          refine r_drop (ls2 := [(0, vR (40, 0, 0)), (1, vI v1), (2, vI r9)]) [1, 2, 0] rfl ?_
          exact hk12 _ _ hF
set_option maxRecDepth 20000 in
set_option maxHeartbeats 4000000 in
theorem s_X11_readRow (G : Gx) (l : Launch)  {σ σ' : St}  (hF : F_X11_readRow  σ = some ((), σ')) : Sp G l yX11_readRow cX11_readRow 3 none (lvl 2) [vR (40, 0, 0)] σ (va_Qv (fun b => b = σ') (Wd G) (AG G)) := by
  refine Sp_of (own := RX11) (by decide) rfl (Nat.le_of_ble_eq_true rfl) ?_
  intro p e s m args below meth c C
  show Rt G p l e (lvl 2) s m args below meth c 0 0 (MQ below (va_Qv (fun b => b = σ') (Wd G) (AG G)) args s 0 0 (AG G)) 3 0 [(0, vR (40, 0, 0))] [] σ
  unfold F_X11_readRow at hF
  refine r_aload_n C 0 0 dX11_readRow_0 rfl rfl ?_
  refine r_getI (kf := 13) C dX11_readRow_1 rfl rfl f_X11 (by decide) t_5_69 rfl ?_
  obtain ⟨k1, ek1, hF⟩ := nam_e hF
  have hk1 : ∀  (σ2 : St), k1  σ2 = some ((), σ') → Rt G p l e (lvl 2) s m args below meth c 0 0 (MQ below (va_Qv (fun b => b = σ') (Wd G) (AG G)) args s 0 0 (AG G)) 3 25 [(0, vR (40, 0, 0))] [] σ2 := by
    intro  σ2 hF
    subst ek1
    refine r_aload_n C 0 0 dX11_readRow_25 rfl rfl ?_
    refine r_getI (kf := 13) C dX11_readRow_26 rfl rfl f_X11 (by decide) t_5_69 rfl ?_
    obtain ⟨k3, ek3, hF⟩ := nam_e hF
    have hk3 : ∀  (σ4 : St), k3  σ4 = some ((), σ') → Rt G p l e (lvl 2) s m args below meth c 0 0 (MQ below (va_Qv (fun b => b = σ') (Wd G) (AG G)) args s 0 0 (AG G)) 3 56 [(0, vR (40, 0, 0))] [] σ4 := by
      intro  σ4 hF
      subst ek3
      refine r_iconst (v := (0 : Int32)) C dX11_readRow_56 rfl ?_
      refine r_istore_n (ls2 := [(1, vI (0 : Int32)), (0, vR (40, 0, 0))]) C dX11_readRow_57 1 rfl (by decide) rfl ?_
      refine r_drop (ls2 := [(0, vR (40, 0, 0)), (1, vI (0 : Int32))]) [1, 0] rfl ?_
      refine l_X11_readRow_58 C  _ ?_ _ _ _ hF
      · intro  σ26 hF
        refine r_aload_n C 0 0 dX11_readRow_132 rfl rfl ?_
        refine r_dup_r C dX11_readRow_133 ?_
        refine r_getI (kf := 5) C dX11_readRow_134 rfl rfl f_X11 (by decide) t_5_61 rfl ?_
        refine r_aload_n C 0 0 dX11_readRow_137 rfl rfl ?_
        refine r_getI (kf := 13) C dX11_readRow_138 rfl rfl f_X11 (by decide) t_5_69 rfl ?_
        obtain ⟨k28, ek28, hF⟩ := nam_e hF
        have hk28 : ∀ (y27 : Int32) (σ29 : St), k28 y27 σ29 = some ((), σ') → Rt G p l e (lvl 2) s m args below meth c 0 0 (MQ below (va_Qv (fun b => b = σ') (Wd G) (AG G)) args s 0 0 (AG G)) 3 149 [(0, vR (40, 0, 0))] [vI y27, vI (σ26.1 (40, 0, 0) 5), vR (40, 0, 0)] σ29 := by
          intro y27 σ29 hF
          subst ek28
          obtain ⟨r31, σ30, e32, hF⟩ := bd_e hF
          refine r_callS_i (as := [vI y27]) (st := [vI (σ26.1 (40, 0, 0) 5), vR (40, 0, 0)]) C dX11_readRow_149 (s_X11_flag G l e32) t_5_195 t_5_196 t_1_14 t_5_197 m_X11_flag ⟨Nat.le_of_ble_eq_true rfl, Nat.le_of_ble_eq_true rfl⟩ ⟨rfl, rfl⟩ ⟨Nat.zero_le _, Nat.zero_le _⟩ rfl (Nat.le_of_ble_eq_true rfl) ?_
          refine r_iadd C dX11_readRow_152 ?_
          obtain ⟨σ33, eσ33, hF⟩ := nam_e hF
          refine r_put (kf := 5) (ty0 := tyX11) C dX11_readRow_153 rfl rfl f_X11 tyX11_ok nmX11 (by decide) t_5_61 rfl rfl rfl rfl eσ33 ?_
          refine r_aload_n C 0 0 dX11_readRow_156 rfl rfl ?_
          obtain ⟨⟨⟩, σ34, e35, hF⟩ := bd_e hF
          refine r_callV_v (as := []) (st := []) C dX11_readRow_157 (s_X11_next G l e35) rfl rfl rfl t_5_160 t_5_162 t_s_23 t_1_14 t_5_163 m_X11_next ⟨Nat.le_of_ble_eq_true rfl, Nat.le_of_ble_eq_true rfl⟩ ⟨rfl, rfl⟩ ⟨Nat.zero_le _, Nat.zero_le _⟩ rfl (Nat.le_of_ble_eq_true rfl) ?_
          exact r_return C dX11_readRow_160 (rv_e hF)
        refine r_if_ne C 148 dX11_readRow_141 (by decide)  (fun h36 => ?_) (fun h36 => ?_)
        · have hF := if_f h36 hF
          refine r_iconst (v := (0 : Int32)) C dX11_readRow_148 rfl ?_
          exact hk28 _ _ hF
        · have hF := if_t h36 hF
          refine r_iconst (v := (1 : Int32)) C dX11_readRow_144 rfl ?_
          refine r_goto C 149 dX11_readRow_145 (by decide) ?_
          exact hk28 _ _ hF
    refine r_if_ne C 56 dX11_readRow_29 (by decide)  (fun h43 => ?_) (fun h43 => ?_)
    · have hF := if_f h43 hF
      exact hk3 _ hF
    · have hF := if_t h43 hF
      refine r_aload_n C 0 0 dX11_readRow_32 rfl rfl ?_
      refine r_aload_n C 0 0 dX11_readRow_33 rfl rfl ?_
      refine r_getI (kf := 9) C dX11_readRow_34 rfl rfl f_X11 (by decide) t_5_65 rfl ?_
      refine r_aload_n C 0 0 dX11_readRow_37 rfl rfl ?_
      refine r_getI (kf := 10) C dX11_readRow_38 rfl rfl f_X11 (by decide) t_5_66 rfl ?_
      refine r_isub C dX11_readRow_41 ?_
      refine r_bipush (v := (12 : Int32)) C dX11_readRow_42 rfl ?_
      obtain ⟨k38, ek38, hF⟩ := nam_e hF
      have hk38 : ∀ (y37 : Int32) (σ39 : St), k38 y37 σ39 = some ((), σ') → Rt G p l e (lvl 2) s m args below meth c 0 0 (MQ below (va_Qv (fun b => b = σ') (Wd G) (AG G)) args s 0 0 (AG G)) 3 52 [(0, vR (40, 0, 0))] [vI y37, vR (40, 0, 0)] σ39 := by
        intro y37 σ39 hF
        subst ek38
        refine r_iconst (v := (3 : Int32)) C dX11_readRow_52 rfl ?_
        obtain ⟨⟨⟩, σ40, e41, hF⟩ := bd_e hF
        refine r_callV_v (as := [vI y37, vI (3 : Int32)]) (st := []) C dX11_readRow_53 (s_X11_needs G l e41) rfl rfl rfl t_5_172 t_5_174 t_s_25 t_1_14 t_5_175 m_X11_needs ⟨Nat.le_of_ble_eq_true rfl, Nat.le_of_ble_eq_true rfl⟩ ⟨rfl, rfl⟩ ⟨Nat.zero_le _, Nat.zero_le _⟩ rfl (Nat.le_of_ble_eq_true rfl) ?_
        exact hk3 _ hF
      refine r_icmp_ne C 51 dX11_readRow_44 (by decide)  (fun h42 => ?_) (fun h42 => ?_)
      · have hF := if_f h42 hF
        refine r_iconst (v := (0 : Int32)) C dX11_readRow_51 rfl ?_
        exact hk38 _ _ hF
      · have hF := if_t h42 hF
        refine r_iconst (v := (1 : Int32)) C dX11_readRow_47 rfl ?_
        refine r_goto C 52 dX11_readRow_48 (by decide) ?_
        exact hk38 _ _ hF
  refine r_if_ne C 25 dX11_readRow_4 (by decide)  (fun h50 => ?_) (fun h50 => ?_)
  · have hF := if_f h50 hF
    exact hk1 _ hF
  · have hF := if_t h50 hF
    refine r_aload_n C 0 0 dX11_readRow_7 rfl rfl ?_
    refine r_aload_n C 0 0 dX11_readRow_8 rfl rfl ?_
    refine r_getI (kf := 11) C dX11_readRow_9 rfl rfl f_X11 (by decide) t_5_67 rfl ?_
    refine r_iconst (v := (1 : Int32)) C dX11_readRow_12 rfl ?_
    obtain ⟨k45, ek45, hF⟩ := nam_e hF
    have hk45 : ∀ (y44 : Int32) (σ46 : St), k45 y44 σ46 = some ((), σ') → Rt G p l e (lvl 2) s m args below meth c 0 0 (MQ below (va_Qv (fun b => b = σ') (Wd G) (AG G)) args s 0 0 (AG G)) 3 21 [(0, vR (40, 0, 0))] [vI y44, vR (40, 0, 0)] σ46 := by
      intro y44 σ46 hF
      subst ek45
      refine r_iconst (v := (2 : Int32)) C dX11_readRow_21 rfl ?_
      obtain ⟨⟨⟩, σ47, e48, hF⟩ := bd_e hF
      refine r_callV_v (as := [vI y44, vI (2 : Int32)]) (st := []) C dX11_readRow_22 (s_X11_needs G l e48) rfl rfl rfl t_5_172 t_5_174 t_s_25 t_1_14 t_5_175 m_X11_needs ⟨Nat.le_of_ble_eq_true rfl, Nat.le_of_ble_eq_true rfl⟩ ⟨rfl, rfl⟩ ⟨Nat.zero_le _, Nat.zero_le _⟩ rfl (Nat.le_of_ble_eq_true rfl) ?_
      exact hk1 _ hF
    refine r_icmp_ne C 20 dX11_readRow_13 (by decide)  (fun h49 => ?_) (fun h49 => ?_)
    · have hF := if_f h49 hF
      refine r_iconst (v := (0 : Int32)) C dX11_readRow_20 rfl ?_
      exact hk45 _ _ hF
    · have hF := if_t h49 hF
      refine r_iconst (v := (1 : Int32)) C dX11_readRow_16 rfl ?_
      refine r_goto C 21 dX11_readRow_17 (by decide) ?_
      exact hk45 _ _ hF
def F_X11_lowest (a1 : Int32) (σ : St) : Option (Int32 × St) :=
  (if a1 = (1 : Int32) then some ((0 : Int32), σ) else (if a1 = (4 : Int32) then some ((0 : Int32), σ) else (if a1 = (8 : Int32) then some ((0 : Int32), σ) else some ((1 : Int32), σ))))
set_option maxRecDepth 20000 in
set_option maxHeartbeats 4000000 in
theorem s_X11_lowest (G : Gx) (l : Launch) {a1 : Int32} {σ σ' : St} {r : Int32} (hF : F_X11_lowest a1 σ = some (r, σ')) : Sp G l yX11_lowest cX11_lowest 2 (some .int) (lvl 0) [vR (40, 0, 0), vI a1] σ (va_Qi (fun a b => a = r ∧ b = σ') (Wd G) (AG G)) := by
  refine Sp_of (own := RX11) (by decide) rfl (Nat.le_of_ble_eq_true rfl) ?_
  intro p e s m args below meth c C
  show Rt G p l e (lvl 0) s m args below meth c 0 0 (MQ below (va_Qi (fun a b => a = r ∧ b = σ') (Wd G) (AG G)) args s 0 0 (AG G)) 2 0 [(0, vR (40, 0, 0)), (1, vI a1)] [] σ
  unfold F_X11_lowest at hF
  refine r_iload_n C 1 1 dX11_lowest_0 rfl rfl ?_
  refine r_iconst (v := (1 : Int32)) C dX11_lowest_1 rfl ?_
  refine r_icmp_eq C 16 dX11_lowest_2 (by decide)  (fun h3 => ?_) (fun h3 => ?_)
  · have hF := if_t h3 hF
    refine r_iconst (v := (0 : Int32)) C dX11_lowest_16 rfl ?_
    refine r_goto C 21 dX11_lowest_17 (by decide) ?_
    exact r_ireturn C dX11_lowest_21 (rt_e hF)
  · have hF := if_f h3 hF
    refine r_iload_n C 1 1 dX11_lowest_5 rfl rfl ?_
    refine r_iconst (v := (4 : Int32)) C dX11_lowest_6 rfl ?_
    refine r_icmp_eq C 16 dX11_lowest_7 (by decide)  (fun h2 => ?_) (fun h2 => ?_)
    · have hF := if_t h2 hF
      refine r_iconst (v := (0 : Int32)) C dX11_lowest_16 rfl ?_
      refine r_goto C 21 dX11_lowest_17 (by decide) ?_
      exact r_ireturn C dX11_lowest_21 (rt_e hF)
    · have hF := if_f h2 hF
      refine r_iload_n C 1 1 dX11_lowest_10 rfl rfl ?_
      refine r_bipush (v := (8 : Int32)) C dX11_lowest_11 rfl ?_
      refine r_icmp_ne C 20 dX11_lowest_13 (by decide)  (fun h1 => ?_) (fun h1 => ?_)
      · have hF := if_f h1 hF
        refine r_iconst (v := (1 : Int32)) C dX11_lowest_20 rfl ?_
        exact r_ireturn C dX11_lowest_21 (rt_e hF)
      · have hF := if_t h1 hF
        refine r_iconst (v := (0 : Int32)) C dX11_lowest_16 rfl ?_
        refine r_goto C 21 dX11_lowest_17 (by decide) ?_
        exact r_ireturn C dX11_lowest_21 (rt_e hF)
def F_X11_highest (a1 : Int32) (σ : St) : Option (Int32 × St) :=
  (if a1 = (2 : Int32) then some ((60 : Int32), σ) else (if a1 = (8 : Int32) then some ((60 : Int32), σ) else (if a1 = (4 : Int32) then some ((9 : Int32), σ) else (if a1 = (7 : Int32) then some ((9 : Int32), σ) else (if a1 = (6 : Int32) then some ((50 : Int32), σ) else some ((99 : Int32), σ))))))
set_option maxRecDepth 20000 in
set_option maxHeartbeats 4000000 in
theorem s_X11_highest (G : Gx) (l : Launch) {a1 : Int32} {σ σ' : St} {r : Int32} (hF : F_X11_highest a1 σ = some (r, σ')) : Sp G l yX11_highest cX11_highest 2 (some .int) (lvl 0) [vR (40, 0, 0), vI a1] σ (va_Qi (fun a b => a = r ∧ b = σ') (Wd G) (AG G)) := by
  refine Sp_of (own := RX11) (by decide) rfl (Nat.le_of_ble_eq_true rfl) ?_
  intro p e s m args below meth c C
  show Rt G p l e (lvl 0) s m args below meth c 0 0 (MQ below (va_Qi (fun a b => a = r ∧ b = σ') (Wd G) (AG G)) args s 0 0 (AG G)) 2 0 [(0, vR (40, 0, 0)), (1, vI a1)] [] σ
  unfold F_X11_highest at hF
  refine r_iload_n C 1 1 dX11_highest_0 rfl rfl ?_
  refine r_iconst (v := (2 : Int32)) C dX11_highest_1 rfl ?_
  refine r_icmp_eq C 11 dX11_highest_2 (by decide)  (fun h5 => ?_) (fun h5 => ?_)
  · have hF := if_t h5 hF
    refine r_bipush (v := (60 : Int32)) C dX11_highest_11 rfl ?_
    refine r_goto C 45 dX11_highest_13 (by decide) ?_
    exact r_ireturn C dX11_highest_45 (rt_e hF)
  · have hF := if_f h5 hF
    refine r_iload_n C 1 1 dX11_highest_5 rfl rfl ?_
    refine r_bipush (v := (8 : Int32)) C dX11_highest_6 rfl ?_
    refine r_icmp_ne C 16 dX11_highest_8 (by decide)  (fun h4 => ?_) (fun h4 => ?_)
    · have hF := if_f h4 hF
      refine r_iload_n C 1 1 dX11_highest_16 rfl rfl ?_
      refine r_iconst (v := (4 : Int32)) C dX11_highest_17 rfl ?_
      refine r_icmp_eq C 27 dX11_highest_18 (by decide)  (fun h3 => ?_) (fun h3 => ?_)
      · have hF := if_t h3 hF
        refine r_bipush (v := (9 : Int32)) C dX11_highest_27 rfl ?_
        refine r_goto C 45 dX11_highest_29 (by decide) ?_
        exact r_ireturn C dX11_highest_45 (rt_e hF)
      · have hF := if_f h3 hF
        refine r_iload_n C 1 1 dX11_highest_21 rfl rfl ?_
        refine r_bipush (v := (7 : Int32)) C dX11_highest_22 rfl ?_
        refine r_icmp_ne C 32 dX11_highest_24 (by decide)  (fun h2 => ?_) (fun h2 => ?_)
        · have hF := if_f h2 hF
          refine r_iload_n C 1 1 dX11_highest_32 rfl rfl ?_
          refine r_bipush (v := (6 : Int32)) C dX11_highest_33 rfl ?_
          refine r_icmp_ne C 43 dX11_highest_35 (by decide)  (fun h1 => ?_) (fun h1 => ?_)
          · have hF := if_f h1 hF
            refine r_bipush (v := (99 : Int32)) C dX11_highest_43 rfl ?_
            exact r_ireturn C dX11_highest_45 (rt_e hF)
          · have hF := if_t h1 hF
            refine r_bipush (v := (50 : Int32)) C dX11_highest_38 rfl ?_
            refine r_goto C 45 dX11_highest_40 (by decide) ?_
            exact r_ireturn C dX11_highest_45 (rt_e hF)
        · have hF := if_t h2 hF
          refine r_bipush (v := (9 : Int32)) C dX11_highest_27 rfl ?_
          refine r_goto C 45 dX11_highest_29 (by decide) ?_
          exact r_ireturn C dX11_highest_45 (rt_e hF)
    · have hF := if_t h4 hF
      refine r_bipush (v := (60 : Int32)) C dX11_highest_11 rfl ?_
      refine r_goto C 45 dX11_highest_13 (by decide) ?_
      exact r_ireturn C dX11_highest_45 (rt_e hF)
def F_X11_readLine  (σ : St) : Option (Unit × St) :=
  nam (fun (y1 : Int32) (σ3 : St) => nam (fun (y4 : Int32) (σ6 : St) => bd (F_X11_needs y4 (2 : Int32) σ6) fun _ σ7 => nam (fun (y9 : Int32) (σ11 : St) => bd (F_X11_needs y9 (5 : Int32) σ11) fun _ σ12 => nam (fun  (σ15 : St) => bd (F_X11_next  σ15) fun _ σ16 => (if (σ16.1 (40, 0, 0) 13) ≤ 0 then nam (fun  (σ19 : St) => nam (fun  (σ21 : St) => bd (F_X11_next  σ21) fun _ σ22 => some ((), σ22)) fun k20 => (if (σ19.1 (40, 0, 0) 13) = 0 then nam (fun (y24 : Int32) (σ26 : St) => bd (F_X11_needs y24 (2 : Int32) σ26) fun _ σ27 => k20  σ27) fun k25 => (if (σ19.1 (40, 0, 0) 11) = (3 : Int32) then k25 (1 : Int32) σ19 else k25 (0 : Int32) σ19) else k20  σ19)) fun k18 => (if y1 = (20 : Int32) then bd (F_X11_readRow  σ16) fun _ σ49 => k18  σ49 else bd (F_X11_lowest y1 σ16) fun r32 σ31 => bd (F_X11_highest y1 σ31) fun r35 σ34 => bd (F_X11_readNumber r32 r35 σ34) fun r38 σ37 => ck (inb y1 9) (nam (uI σ37 (44, 0, 0) (y1.toNatClampNeg) r38) fun σ41 => (if y1 = (2 : Int32) then ck (inb (2 : Int32) 9) (bd (F_X11_readNumber (σ41.1 (44, 0, 0) 2) (60 : Int32) σ41) fun r44 σ43 => ck (inb (3 : Int32) 9) (nam (uI σ43 (44, 0, 0) 3 r44) fun σ47 => k18  σ47)) else k18  σ41))) else some ((), σ16))) fun k14 => (if (σ12.1 (40, 0, 0) 13) = 0 then (if y1 = (20 : Int32) then k14  σ12 else ck (inb y1 9) (nam (fun (y54 : Int32) (σ56 : St) => bd (F_X11_needs y54 (4 : Int32) σ56) fun _ σ57 => ck (inb y1 9) (nam (uI σ57 (45, 0, 0) (y1.toNatClampNeg) (vp_nar .boolean (1 : Int32))) fun σ60 => k14  σ60)) fun k55 => (if (σ12.1 (45, 0, 0) (y1.toNatClampNeg)) = 0 then k55 (1 : Int32) σ12 else k55 (0 : Int32) σ12))) else k14  σ12)) fun k10 => (if y1 = (20 : Int32) then (if (8 : Int32) ≤ (σ7.1 (40, 0, 0) 5) then k10 (0 : Int32) σ7 else k10 (1 : Int32) σ7) else k10 (1 : Int32) σ7)) fun k5 => (if y1 = (-4 : Int32) then k5 (0 : Int32) σ3 else k5 (1 : Int32) σ3)) fun k2 => (if (σ.1 (40, 0, 0) 11) = (1 : Int32) then bd (F_X11_nameNow  σ) fun r68 σ67 => k2 r68 σ67 else k2 (-4 : Int32) σ)
set_option maxRecDepth 20000 in
set_option maxHeartbeats 4000000 in
theorem s_X11_readLine (G : Gx) (l : Launch)  {σ σ' : St}  (hF : F_X11_readLine  σ = some ((), σ')) : Sp G l yX11_readLine cX11_readLine 2 none (lvl 3) [vR (40, 0, 0)] σ (va_Qv (fun b => b = σ') (Wd G) (AG G)) := by
  refine Sp_of (own := RX11) (by decide) rfl (Nat.le_of_ble_eq_true rfl) ?_
  intro p e s m args below meth c C
  show Rt G p l e (lvl 3) s m args below meth c 0 0 (MQ below (va_Qv (fun b => b = σ') (Wd G) (AG G)) args s 0 0 (AG G)) 2 0 [(0, vR (40, 0, 0))] [] σ
  unfold F_X11_readLine at hF
  refine r_aload_n C 0 0 dX11_readLine_0 rfl rfl ?_
  refine r_getI (kf := 11) C dX11_readLine_1 rfl rfl f_X11 (by decide) t_5_67 rfl ?_
  refine r_iconst (v := (1 : Int32)) C dX11_readLine_4 rfl ?_
  obtain ⟨k2, ek2, hF⟩ := nam_e hF
  have hk2 : ∀ (y1 : Int32) (σ3 : St), k2 y1 σ3 = some ((), σ') → Rt G p l e (lvl 3) s m args below meth c 0 0 (MQ below (va_Qv (fun b => b = σ') (Wd G) (AG G)) args s 0 0 (AG G)) 2 17 [(0, vR (40, 0, 0))] [vI y1] σ3 := by
    intro y1 σ3 hF
    subst ek2
    refine r_istore_n (ls2 := [(1, vI y1), (0, vR (40, 0, 0))]) C dX11_readLine_17 1 rfl (by decide) rfl ?_
    refine r_aload_n C 1 0 dX11_readLine_18 rfl rfl ?_
    refine r_iload_n C 0 1 dX11_readLine_19 rfl rfl ?_
    refine r_bipush (v := (-4 : Int32)) C dX11_readLine_20 rfl ?_
    obtain ⟨k5, ek5, hF⟩ := nam_e hF
    have hk5 : ∀ (y4 : Int32) (σ6 : St), k5 y4 σ6 = some ((), σ') → Rt G p l e (lvl 3) s m args below meth c 0 0 (MQ below (va_Qv (fun b => b = σ') (Wd G) (AG G)) args s 0 0 (AG G)) 2 30 [(0, vR (40, 0, 0)), (1, vI y1)] [vI y4, vR (40, 0, 0)] σ6 := by
      intro y4 σ6 hF
      subst ek5
      refine r_iconst (v := (2 : Int32)) C dX11_readLine_30 rfl ?_
      obtain ⟨⟨⟩, σ7, e8, hF⟩ := bd_e hF
      refine r_callV_v (as := [vI y4, vI (2 : Int32)]) (st := []) C dX11_readLine_31 (s_X11_needs G l e8) rfl rfl rfl t_5_172 t_5_174 t_s_25 t_1_14 t_5_175 m_X11_needs ⟨Nat.le_of_ble_eq_true rfl, Nat.le_of_ble_eq_true rfl⟩ ⟨rfl, rfl⟩ ⟨Nat.zero_le _, Nat.zero_le _⟩ rfl (Nat.le_of_ble_eq_true rfl) ?_
      refine r_aload_n C 0 0 dX11_readLine_34 rfl rfl ?_
      refine r_iload_n C 1 1 dX11_readLine_35 rfl rfl ?_
      refine r_bipush (v := (20 : Int32)) C dX11_readLine_36 rfl ?_
      obtain ⟨k10, ek10, hF⟩ := nam_e hF
      have hk10 : ∀ (y9 : Int32) (σ11 : St), k10 y9 σ11 = some ((), σ') → Rt G p l e (lvl 3) s m args below meth c 0 0 (MQ below (va_Qv (fun b => b = σ') (Wd G) (AG G)) args s 0 0 (AG G)) 2 55 [(0, vR (40, 0, 0)), (1, vI y1)] [vI y9, vR (40, 0, 0)] σ11 := by
        intro y9 σ11 hF
        subst ek10
        refine r_iconst (v := (5 : Int32)) C dX11_readLine_55 rfl ?_
        obtain ⟨⟨⟩, σ12, e13, hF⟩ := bd_e hF
        refine r_callV_v (as := [vI y9, vI (5 : Int32)]) (st := []) C dX11_readLine_56 (s_X11_needs G l e13) rfl rfl rfl t_5_172 t_5_174 t_s_25 t_1_14 t_5_175 m_X11_needs ⟨Nat.le_of_ble_eq_true rfl, Nat.le_of_ble_eq_true rfl⟩ ⟨rfl, rfl⟩ ⟨Nat.zero_le _, Nat.zero_le _⟩ rfl (Nat.le_of_ble_eq_true rfl) ?_
        refine r_aload_n C 0 0 dX11_readLine_59 rfl rfl ?_
        refine r_getI (kf := 13) C dX11_readLine_60 rfl rfl f_X11 (by decide) t_5_69 rfl ?_
        obtain ⟨k14, ek14, hF⟩ := nam_e hF
        have hk14 : ∀  (σ15 : St), k14  σ15 = some ((), σ') → Rt G p l e (lvl 3) s m args below meth c 0 0 (MQ below (va_Qv (fun b => b = σ') (Wd G) (AG G)) args s 0 0 (AG G)) 2 98 [(0, vR (40, 0, 0)), (1, vI y1)] [] σ15 := by
          intro  σ15 hF
          subst ek14
          refine r_aload_n C 0 0 dX11_readLine_98 rfl rfl ?_
          obtain ⟨⟨⟩, σ16, e17, hF⟩ := bd_e hF
          refine r_callV_v (as := []) (st := []) C dX11_readLine_99 (s_X11_next G l e17) rfl rfl rfl t_5_160 t_5_162 t_s_23 t_1_14 t_5_163 m_X11_next ⟨Nat.le_of_ble_eq_true rfl, Nat.le_of_ble_eq_true rfl⟩ ⟨rfl, rfl⟩ ⟨Nat.zero_le _, Nat.zero_le _⟩ rfl (Nat.le_of_ble_eq_true rfl) ?_
          refine r_aload_n C 0 0 dX11_readLine_102 rfl rfl ?_
          refine r_getI (kf := 13) C dX11_readLine_103 rfl rfl f_X11 (by decide) t_5_69 rfl ?_
          refine r_if_le C 110 dX11_readLine_106 (by decide)  (fun h52 => ?_) (fun h52 => ?_)
          · have hF := if_t h52 hF
            refine r_iload_n C 1 1 dX11_readLine_110 rfl rfl ?_
            refine r_bipush (v := (20 : Int32)) C dX11_readLine_111 rfl ?_
            obtain ⟨k18, ek18, hF⟩ := nam_e hF
            have hk18 : ∀  (σ19 : St), k18  σ19 = some ((), σ') → Rt G p l e (lvl 3) s m args below meth c 0 0 (MQ below (va_Qv (fun b => b = σ') (Wd G) (AG G)) args s 0 0 (AG G)) 2 166 [(0, vR (40, 0, 0))] [] σ19 := by
              intro  σ19 hF
              subst ek18
              refine r_aload_n C 0 0 dX11_readLine_166 rfl rfl ?_
              refine r_getI (kf := 13) C dX11_readLine_167 rfl rfl f_X11 (by decide) t_5_69 rfl ?_
              obtain ⟨k20, ek20, hF⟩ := nam_e hF
              have hk20 : ∀  (σ21 : St), k20  σ21 = some ((), σ') → Rt G p l e (lvl 3) s m args below meth c 0 0 (MQ below (va_Qv (fun b => b = σ') (Wd G) (AG G)) args s 0 0 (AG G)) 2 191 [(0, vR (40, 0, 0))] [] σ21 := by
                intro  σ21 hF
                subst ek20
                refine r_aload_n C 0 0 dX11_readLine_191 rfl rfl ?_
                obtain ⟨⟨⟩, σ22, e23, hF⟩ := bd_e hF
                refine r_callV_v (as := []) (st := []) C dX11_readLine_192 (s_X11_next G l e23) rfl rfl rfl t_5_160 t_5_162 t_s_23 t_1_14 t_5_163 m_X11_next ⟨Nat.le_of_ble_eq_true rfl, Nat.le_of_ble_eq_true rfl⟩ ⟨rfl, rfl⟩ ⟨Nat.zero_le _, Nat.zero_le _⟩ rfl (Nat.le_of_ble_eq_true rfl) ?_
                exact r_return C dX11_readLine_195 (rv_e hF)
              refine r_if_ne C 191 dX11_readLine_170 (by decide)  (fun h30 => ?_) (fun h30 => ?_)
              · have hF := if_f h30 hF
                exact hk20 _ hF
              · have hF := if_t h30 hF
                refine r_aload_n C 0 0 dX11_readLine_173 rfl rfl ?_
                refine r_aload_n C 0 0 dX11_readLine_174 rfl rfl ?_
                refine r_getI (kf := 11) C dX11_readLine_175 rfl rfl f_X11 (by decide) t_5_67 rfl ?_
                refine r_iconst (v := (3 : Int32)) C dX11_readLine_178 rfl ?_
                obtain ⟨k25, ek25, hF⟩ := nam_e hF
                have hk25 : ∀ (y24 : Int32) (σ26 : St), k25 y24 σ26 = some ((), σ') → Rt G p l e (lvl 3) s m args below meth c 0 0 (MQ below (va_Qv (fun b => b = σ') (Wd G) (AG G)) args s 0 0 (AG G)) 2 187 [(0, vR (40, 0, 0))] [vI y24, vR (40, 0, 0)] σ26 := by
                  intro y24 σ26 hF
                  subst ek25
                  refine r_iconst (v := (2 : Int32)) C dX11_readLine_187 rfl ?_
                  obtain ⟨⟨⟩, σ27, e28, hF⟩ := bd_e hF
                  refine r_callV_v (as := [vI y24, vI (2 : Int32)]) (st := []) C dX11_readLine_188 (s_X11_needs G l e28) rfl rfl rfl t_5_172 t_5_174 t_s_25 t_1_14 t_5_175 m_X11_needs ⟨Nat.le_of_ble_eq_true rfl, Nat.le_of_ble_eq_true rfl⟩ ⟨rfl, rfl⟩ ⟨Nat.zero_le _, Nat.zero_le _⟩ rfl (Nat.le_of_ble_eq_true rfl) ?_
                  exact hk20 _ hF
                refine r_icmp_ne C 186 dX11_readLine_179 (by decide)  (fun h29 => ?_) (fun h29 => ?_)
                · have hF := if_f h29 hF
                  refine r_iconst (v := (0 : Int32)) C dX11_readLine_186 rfl ?_
                  exact hk25 _ _ hF
                · have hF := if_t h29 hF
                  refine r_iconst (v := (1 : Int32)) C dX11_readLine_182 rfl ?_
                  refine r_goto C 187 dX11_readLine_183 (by decide) ?_
                  exact hk25 _ _ hF
            refine r_icmp_ne C 123 dX11_readLine_113 (by decide)  (fun h51 => ?_) (fun h51 => ?_)
            · have hF := if_f h51 hF
              refine r_aload_n C 0 0 dX11_readLine_123 rfl rfl ?_
              refine r_getR (kf := 3) (d2 := (44, 0, 0)) C dX11_readLine_124 rfl rfl f_X11 (by decide) t_5_59 rfl rfl ?_
              refine r_iload_n C 1 1 dX11_readLine_127 rfl rfl ?_
              refine r_aload_n C 0 0 dX11_readLine_128 rfl rfl ?_
              refine r_aload_n C 0 0 dX11_readLine_129 rfl rfl ?_
              refine r_iload_n C 1 1 dX11_readLine_130 rfl rfl ?_
              obtain ⟨r32, σ31, e33, hF⟩ := bd_e hF
              refine r_callV_i (as := [vI y1]) (st := [vR (40, 0, 0), vI y1, vR (44, 0, 0)]) C dX11_readLine_131 (s_X11_lowest G l e33) rfl rfl rfl t_5_198 t_5_200 t_s_30 t_1_14 t_5_201 m_X11_lowest ⟨Nat.le_of_ble_eq_true rfl, Nat.le_of_ble_eq_true rfl⟩ ⟨rfl, rfl⟩ ⟨Nat.zero_le _, Nat.zero_le _⟩ rfl (Nat.le_of_ble_eq_true rfl) ?_
              refine r_aload_n C 0 0 dX11_readLine_134 rfl rfl ?_
              refine r_iload_n C 1 1 dX11_readLine_135 rfl rfl ?_
              obtain ⟨r35, σ34, e36, hF⟩ := bd_e hF
              refine r_callV_i (as := [vI y1]) (st := [vI r32, vR (40, 0, 0), vI y1, vR (44, 0, 0)]) C dX11_readLine_136 (s_X11_highest G l e36) rfl rfl rfl t_5_202 t_5_204 t_s_31 t_1_14 t_5_205 m_X11_highest ⟨Nat.le_of_ble_eq_true rfl, Nat.le_of_ble_eq_true rfl⟩ ⟨rfl, rfl⟩ ⟨Nat.zero_le _, Nat.zero_le _⟩ rfl (Nat.le_of_ble_eq_true rfl) ?_
              obtain ⟨r38, σ37, e39, hF⟩ := bd_e hF
              refine r_callV_i (as := [vI r32, vI r35]) (st := [vI y1, vR (44, 0, 0)]) C dX11_readLine_139 (s_X11_readNumber G l e39) rfl rfl rfl t_5_206 t_5_208 t_s_32 t_1_14 t_5_209 m_X11_readNumber ⟨Nat.le_of_ble_eq_true rfl, Nat.le_of_ble_eq_true rfl⟩ ⟨rfl, rfl⟩ ⟨Nat.zero_le _, Nat.zero_le _⟩ rfl (Nat.le_of_ble_eq_true rfl) ?_
              obtain ⟨h40, hF⟩ := ck_e hF
              obtain ⟨σ41, eσ41, hF⟩ := nam_e hF
              refine r_iastore C (y1.toNatClampNeg) dX11_readLine_142 rfl h40 rfl eσ41 ?_
              refine r_iload_n C 1 1 dX11_readLine_143 rfl rfl ?_
              refine r_iconst (v := (2 : Int32)) C dX11_readLine_144 rfl ?_
              refine r_icmp_ne C 166 dX11_readLine_145 (by decide)  (fun h48 => ?_) (fun h48 => ?_)
              · have hF := if_f h48 hF
                refine r_drop (ls2 := [(0, vR (40, 0, 0))]) [0] rfl ?_
                exact hk18 _ hF
              · have hF := if_t h48 hF
                refine r_aload_n C 0 0 dX11_readLine_148 rfl rfl ?_
                refine r_getR (kf := 3) (d2 := (44, 0, 0)) C dX11_readLine_149 rfl rfl f_X11 (by decide) t_5_59 rfl rfl ?_
                refine r_iconst (v := (3 : Int32)) C dX11_readLine_152 rfl ?_
                refine r_aload_n C 0 0 dX11_readLine_153 rfl rfl ?_
                refine r_aload_n C 0 0 dX11_readLine_154 rfl rfl ?_
                refine r_getR (kf := 3) (d2 := (44, 0, 0)) C dX11_readLine_155 rfl rfl f_X11 (by decide) t_5_59 rfl rfl ?_
                refine r_iconst (v := (2 : Int32)) C dX11_readLine_158 rfl ?_
                obtain ⟨h42, hF⟩ := ck_e hF
                refine r_iaload C 2 dX11_readLine_159 rfl h42 rfl ?_
                refine r_bipush (v := (60 : Int32)) C dX11_readLine_160 rfl ?_
                obtain ⟨r44, σ43, e45, hF⟩ := bd_e hF
                refine r_callV_i (as := [vI (σ41.1 (44, 0, 0) 2), vI (60 : Int32)]) (st := [vI (3 : Int32), vR (44, 0, 0)]) C dX11_readLine_162 (s_X11_readNumber G l e45) rfl rfl rfl t_5_206 t_5_208 t_s_32 t_1_14 t_5_209 m_X11_readNumber ⟨Nat.le_of_ble_eq_true rfl, Nat.le_of_ble_eq_true rfl⟩ ⟨rfl, rfl⟩ ⟨Nat.zero_le _, Nat.zero_le _⟩ rfl (Nat.le_of_ble_eq_true rfl) ?_
                obtain ⟨h46, hF⟩ := ck_e hF
                obtain ⟨σ47, eσ47, hF⟩ := nam_e hF
                refine r_iastore C 3 dX11_readLine_165 rfl h46 rfl eσ47 ?_
                refine r_drop (ls2 := [(0, vR (40, 0, 0))]) [0] rfl ?_
                exact hk18 _ hF
            · have hF := if_t h51 hF
              refine r_aload_n C 0 0 dX11_readLine_116 rfl rfl ?_
              obtain ⟨⟨⟩, σ49, e50, hF⟩ := bd_e hF
              refine r_callV_v (as := []) (st := []) C dX11_readLine_117 (s_X11_readRow G l e50) rfl rfl rfl t_5_188 t_5_190 t_s_29 t_1_14 t_5_191 m_X11_readRow ⟨Nat.le_of_ble_eq_true rfl, Nat.le_of_ble_eq_true rfl⟩ ⟨rfl, rfl⟩ ⟨Nat.zero_le _, Nat.zero_le _⟩ rfl (Nat.le_of_ble_eq_true rfl) ?_
              refine r_goto C 166 dX11_readLine_120 (by decide) ?_
              refine r_drop (ls2 := [(0, vR (40, 0, 0))]) [0] rfl ?_
              exact hk18 _ hF
          · have hF := if_f h52 hF
            exact r_return C dX11_readLine_109 (rv_e hF)
        refine r_if_ne C 98 dX11_readLine_63 (by decide)  (fun h63 => ?_) (fun h63 => ?_)
        · have hF := if_f h63 hF
          exact hk14 _ hF
        · have hF := if_t h63 hF
          refine r_iload_n C 1 1 dX11_readLine_66 rfl rfl ?_
          refine r_bipush (v := (20 : Int32)) C dX11_readLine_67 rfl ?_
          refine r_icmp_eq C 98 dX11_readLine_69 (by decide)  (fun h62 => ?_) (fun h62 => ?_)
          · have hF := if_t h62 hF
            exact hk14 _ hF
          · have hF := if_f h62 hF
            refine r_aload_n C 0 0 dX11_readLine_72 rfl rfl ?_
            refine r_aload_n C 0 0 dX11_readLine_73 rfl rfl ?_
            refine r_getR (kf := 4) (d2 := (45, 0, 0)) C dX11_readLine_74 rfl rfl f_X11 (by decide) t_5_60 rfl rfl ?_
            refine r_iload_n C 1 1 dX11_readLine_77 rfl rfl ?_
            obtain ⟨h53, hF⟩ := ck_e hF
            refine r_zaload C (y1.toNatClampNeg) dX11_readLine_78 rfl h53 rfl ?_
            obtain ⟨k55, ek55, hF⟩ := nam_e hF
            have hk55 : ∀ (y54 : Int32) (σ56 : St), k55 y54 σ56 = some ((), σ') → Rt G p l e (lvl 3) s m args below meth c 0 0 (MQ below (va_Qv (fun b => b = σ') (Wd G) (AG G)) args s 0 0 (AG G)) 2 87 [(0, vR (40, 0, 0)), (1, vI y1)] [vI y54, vR (40, 0, 0)] σ56 := by
              intro y54 σ56 hF
              subst ek55
              refine r_iconst (v := (4 : Int32)) C dX11_readLine_87 rfl ?_
              obtain ⟨⟨⟩, σ57, e58, hF⟩ := bd_e hF
              refine r_callV_v (as := [vI y54, vI (4 : Int32)]) (st := []) C dX11_readLine_88 (s_X11_needs G l e58) rfl rfl rfl t_5_172 t_5_174 t_s_25 t_1_14 t_5_175 m_X11_needs ⟨Nat.le_of_ble_eq_true rfl, Nat.le_of_ble_eq_true rfl⟩ ⟨rfl, rfl⟩ ⟨Nat.zero_le _, Nat.zero_le _⟩ rfl (Nat.le_of_ble_eq_true rfl) ?_
              refine r_aload_n C 0 0 dX11_readLine_91 rfl rfl ?_
              refine r_getR (kf := 4) (d2 := (45, 0, 0)) C dX11_readLine_92 rfl rfl f_X11 (by decide) t_5_60 rfl rfl ?_
              refine r_iload_n C 1 1 dX11_readLine_95 rfl rfl ?_
              refine r_iconst (v := (1 : Int32)) C dX11_readLine_96 rfl ?_
              obtain ⟨h59, hF⟩ := ck_e hF
              obtain ⟨σ60, eσ60, hF⟩ := nam_e hF
              refine r_zastore C (y1.toNatClampNeg) dX11_readLine_97 rfl h59 rfl eσ60 ?_
              exact hk14 _ hF
            refine r_if_ne C 86 dX11_readLine_79 (by decide)  (fun h61 => ?_) (fun h61 => ?_)
            · have hF := if_f h61 hF
              refine r_iconst (v := (0 : Int32)) C dX11_readLine_86 rfl ?_
              exact hk55 _ _ hF
            · have hF := if_t h61 hF
              refine r_iconst (v := (1 : Int32)) C dX11_readLine_82 rfl ?_
              refine r_goto C 87 dX11_readLine_83 (by decide) ?_
              exact hk55 _ _ hF
      refine r_icmp_ne C 50 dX11_readLine_38 (by decide)  (fun h65 => ?_) (fun h65 => ?_)
      · have hF := if_f h65 hF
        refine r_iconst (v := (1 : Int32)) C dX11_readLine_50 rfl ?_
        refine r_goto C 55 dX11_readLine_51 (by decide) ?_
        exact hk10 _ _ hF
      · have hF := if_t h65 hF
        refine r_aload_n C 0 0 dX11_readLine_41 rfl rfl ?_
        refine r_getI (kf := 5) C dX11_readLine_42 rfl rfl f_X11 (by decide) t_5_61 rfl ?_
        refine r_bipush (v := (8 : Int32)) C dX11_readLine_45 rfl ?_
        refine r_icmp_ge C 54 dX11_readLine_47 (by decide)  (fun h64 => ?_) (fun h64 => ?_)
        · have hF := if_t h64 hF
          refine r_iconst (v := (0 : Int32)) C dX11_readLine_54 rfl ?_
          exact hk10 _ _ hF
        · have hF := if_f h64 hF
          refine r_iconst (v := (1 : Int32)) C dX11_readLine_50 rfl ?_
          refine r_goto C 55 dX11_readLine_51 (by decide) ?_
          exact hk10 _ _ hF
    refine r_icmp_eq C 29 dX11_readLine_22 (by decide)  (fun h66 => ?_) (fun h66 => ?_)
    · have hF := if_t h66 hF
      refine r_iconst (v := (0 : Int32)) C dX11_readLine_29 rfl ?_
      refine r_drop (ls2 := [(0, vR (40, 0, 0)), (1, vI y1)]) [1, 0] rfl ?_
      exact hk5 _ _ hF
    · have hF := if_f h66 hF
      refine r_iconst (v := (1 : Int32)) C dX11_readLine_25 rfl ?_
      refine r_goto C 30 dX11_readLine_26 (by decide) ?_
      refine r_drop (ls2 := [(0, vR (40, 0, 0)), (1, vI y1)]) [1, 0] rfl ?_
      exact hk5 _ _ hF
  refine r_icmp_ne C 15 dX11_readLine_5 (by decide)  (fun h70 => ?_) (fun h70 => ?_)
  · have hF := if_f h70 hF
    refine r_bipush (v := (-4 : Int32)) C dX11_readLine_15 rfl ?_
    exact hk2 _ _ hF
  · have hF := if_t h70 hF
    refine r_aload_n C 0 0 dX11_readLine_8 rfl rfl ?_
    obtain ⟨r68, σ67, e69, hF⟩ := bd_e hF
    refine r_callV_i (as := []) (st := []) C dX11_readLine_9 (s_X11_nameNow G l e69) rfl rfl rfl t_5_180 t_5_182 t_s_27 t_1_14 t_5_183 m_X11_nameNow ⟨Nat.le_of_ble_eq_true rfl, Nat.le_of_ble_eq_true rfl⟩ ⟨rfl, rfl⟩ ⟨Nat.zero_le _, Nat.zero_le _⟩ rfl (Nat.le_of_ble_eq_true rfl) ?_
    refine r_goto C 17 dX11_readLine_12 (by decide) ?_
    exact hk2 _ _ hF
def L_X11_text_20  : Nat → Int32 → St → (Int32 → St → Option (Int32 × St)) → Option (Int32 × St)
  | 0, _, _, _ => none
  | n + 1, v1, τ, kx44 =>
  (if (τ.1 (40, 0, 0) 13) = 0 then (if (τ.1 (40, 0, 0) 11) = 0 then kx44 v1 τ else bd (F_X11_readLine  τ) fun _ σ7 => nam (v1 + (1 : Int32)) fun x9 => L_X11_text_20 n x9 σ7 kx44) else kx44 v1 τ)
def F_X11_text  (σ : St) : Option (Int32 × St) :=
  nam (uI σ (40, 0, 0) 13 (0 : Int32)) fun σ1 => nam (uI σ1 (40, 0, 0) 9 (0 : Int32)) fun σ2 => bd (F_X11_firstDraft  σ2) fun _ σ3 => bd (F_X11_next  σ3) fun _ σ5 => L_X11_text_20  FU (0 : Int32) σ5 (fun (y13 : Int32) (σ12 : St) => ck (inb (1 : Int32) 9) (ck (inb (0 : Int32) 9) (nam (fun (y16 : Int32) (σ18 : St) => bd (F_X11_needs y16 (6 : Int32) σ18) fun _ σ19 => nam (uI σ19 (40, 0, 0) 8 (0 : Int32)) fun σ21 => (if (σ21.1 (40, 0, 0) 13) ≤ 0 then bd (F_X11_keepDraft  σ21) fun _ σ22 => some (y13, σ22) else some ((-10 : Int32) - (σ21.1 (40, 0, 0) 14), σ21))) fun k17 => (if (σ12.1 (44, 0, 0) 0) < (σ12.1 (44, 0, 0) 1) then k17 (0 : Int32) σ12 else k17 (1 : Int32) σ12))))
set_option maxRecDepth 20000 in
set_option maxHeartbeats 4000000 in
theorem l_X11_text_20 {G : Gx} {p : Program} {l : Launch} {e : Env} {s : State} {m : MethodId} {args : Array Value} {below : List Frame} {meth : Method} {c : Code} (C : Cx G p s m args meth c (some .int) 2 RX11 cX11_text)  {σ' : St} {r : Int32} (kx44 : Int32 → St → Option (Int32 × St)) (hkx44 : ∀ (w1 : Int32) (τ : St), kx44 w1 τ = some (r, σ') → Rt G p l e (lvl 4) s m args below meth c 0 0 (MQ below (va_Qi (fun a b => a = r ∧ b = σ') (Wd G) (AG G)) args s 0 0 (AG G)) 2 44 [(0, vR (40, 0, 0)), (1, vI w1)] [] τ) : ∀ (n : Nat) (v1 : Int32) (τ : St), L_X11_text_20  n v1 τ kx44 = some (r, σ') → Rt G p l e (lvl 4) s m args below meth c 0 0 (MQ below (va_Qi (fun a b => a = r ∧ b = σ') (Wd G) (AG G)) args s 0 0 (AG G)) 2 20 [(0, vR (40, 0, 0)), (1, vI v1)] [] τ := by
  intro n
  induction n with
  | zero => intro v1 τ hF; cases hF
  | succ n ih =>
    intro v1 τ hF
    unfold L_X11_text_20 at hF
    refine r_aload_n C 0 0 dX11_text_20 rfl rfl ?_
    refine r_getI (kf := 13) C dX11_text_21 rfl rfl f_X11 (by decide) t_5_69 rfl ?_
    refine r_if_ne C 44 dX11_text_24 (by decide)  (fun h11 => ?_) (fun h11 => ?_)
    · have hF := if_f h11 hF
      exact hkx44 _ _ hF
    · have hF := if_t h11 hF
      refine r_aload_n C 0 0 dX11_text_27 rfl rfl ?_
      refine r_getI (kf := 11) C dX11_text_28 rfl rfl f_X11 (by decide) t_5_67 rfl ?_
      refine r_if_eq C 44 dX11_text_31 (by decide)  (fun h10 => ?_) (fun h10 => ?_)
      · have hF := if_t h10 hF
        exact hkx44 _ _ hF
      · have hF := if_f h10 hF
        refine r_aload_n C 0 0 dX11_text_34 rfl rfl ?_
        obtain ⟨⟨⟩, σ7, e8, hF⟩ := bd_e hF
        refine r_callV_v (as := []) (st := []) C dX11_text_35 (s_X11_readLine G l e8) rfl rfl rfl t_5_176 t_5_178 t_s_26 t_1_14 t_5_179 m_X11_readLine ⟨Nat.le_of_ble_eq_true rfl, Nat.le_of_ble_eq_true rfl⟩ ⟨rfl, rfl⟩ ⟨Nat.zero_le _, Nat.zero_le _⟩ rfl (Nat.le_of_ble_eq_true rfl) ?_
        obtain ⟨x9, ex9, hF⟩ := nam_e hF
        refine r_iinc (v := x9) (ls2 := [(1, vI x9), (0, vR (40, 0, 0))]) C 1 dX11_text_38 rfl ex9.symm (by decide) rfl ?_
        refine r_goto C 20 dX11_text_41 (by decide) ?_
        refine r_drop (ls2 := [(0, vR (40, 0, 0)), (1, vI x9)]) [1, 0] rfl ?_
        exact ih _ _ hF
set_option maxRecDepth 20000 in
set_option maxHeartbeats 4000000 in
theorem s_X11_text (G : Gx) (l : Launch)  {σ σ' : St} {r : Int32} (hF : F_X11_text  σ = some (r, σ')) : Sp G l yX11_text cX11_text 2 (some .int) (lvl 4) [vR (40, 0, 0)] σ (va_Qi (fun a b => a = r ∧ b = σ') (Wd G) (AG G)) := by
  refine Sp_of (own := RX11) (by decide) rfl (Nat.le_of_ble_eq_true rfl) ?_
  intro p e s m args below meth c C
  show Rt G p l e (lvl 4) s m args below meth c 0 0 (MQ below (va_Qi (fun a b => a = r ∧ b = σ') (Wd G) (AG G)) args s 0 0 (AG G)) 2 0 [(0, vR (40, 0, 0))] [] σ
  unfold F_X11_text at hF
  refine r_iconst (v := (0 : Int32)) C dX11_text_0 rfl ?_
  refine r_istore_n (ls2 := [(1, vI (0 : Int32)), (0, vR (40, 0, 0))]) C dX11_text_1 1 rfl (by decide) rfl ?_
  refine r_aload_n C 1 0 dX11_text_2 rfl rfl ?_
  refine r_iconst (v := (0 : Int32)) C dX11_text_3 rfl ?_
  obtain ⟨σ1, eσ1, hF⟩ := nam_e hF
  refine r_put (kf := 13) (ty0 := tyX11) C dX11_text_4 rfl rfl f_X11 tyX11_ok nmX11 (by decide) t_5_69 rfl rfl rfl rfl eσ1 ?_
  refine r_aload_n C 1 0 dX11_text_7 rfl rfl ?_
  refine r_iconst (v := (0 : Int32)) C dX11_text_8 rfl ?_
  obtain ⟨σ2, eσ2, hF⟩ := nam_e hF
  refine r_put (kf := 9) (ty0 := tyX11) C dX11_text_9 rfl rfl f_X11 tyX11_ok nmX11 (by decide) t_5_65 rfl rfl rfl rfl eσ2 ?_
  refine r_aload_n C 1 0 dX11_text_12 rfl rfl ?_
  obtain ⟨⟨⟩, σ3, e4, hF⟩ := bd_e hF
  refine r_callV_v (as := []) (st := []) C dX11_text_13 (s_X11_firstDraft G l e4) rfl rfl rfl t_5_48 t_5_50 t_s_21 t_1_14 t_5_51 m_X11_firstDraft ⟨Nat.le_of_ble_eq_true rfl, Nat.le_of_ble_eq_true rfl⟩ ⟨rfl, rfl⟩ ⟨Nat.zero_le _, Nat.zero_le _⟩ rfl (Nat.le_of_ble_eq_true rfl) ?_
  refine r_aload_n C 1 0 dX11_text_16 rfl rfl ?_
  obtain ⟨⟨⟩, σ5, e6, hF⟩ := bd_e hF
  refine r_callV_v (as := []) (st := []) C dX11_text_17 (s_X11_next G l e6) rfl rfl rfl t_5_160 t_5_162 t_s_23 t_1_14 t_5_163 m_X11_next ⟨Nat.le_of_ble_eq_true rfl, Nat.le_of_ble_eq_true rfl⟩ ⟨rfl, rfl⟩ ⟨Nat.zero_le _, Nat.zero_le _⟩ rfl (Nat.le_of_ble_eq_true rfl) ?_
  refine r_drop (ls2 := [(0, vR (40, 0, 0)), (1, vI (0 : Int32))]) [1, 0] rfl ?_
  refine l_X11_text_20 C  _ ?_ _ _ _ hF
  · intro y13 σ12 hF
    refine r_aload_n C 0 0 dX11_text_44 rfl rfl ?_
    refine r_aload_n C 0 0 dX11_text_45 rfl rfl ?_
    refine r_getR (kf := 3) (d2 := (44, 0, 0)) C dX11_text_46 rfl rfl f_X11 (by decide) t_5_59 rfl rfl ?_
    refine r_iconst (v := (1 : Int32)) C dX11_text_49 rfl ?_
    obtain ⟨h14, hF⟩ := ck_e hF
    refine r_iaload C 1 dX11_text_50 rfl h14 rfl ?_
    refine r_aload_n C 0 0 dX11_text_51 rfl rfl ?_
    refine r_getR (kf := 3) (d2 := (44, 0, 0)) C dX11_text_52 rfl rfl f_X11 (by decide) t_5_59 rfl rfl ?_
    refine r_iconst (v := (0 : Int32)) C dX11_text_55 rfl ?_
    obtain ⟨h15, hF⟩ := ck_e hF
    refine r_iaload C 0 dX11_text_56 rfl h15 rfl ?_
    obtain ⟨k17, ek17, hF⟩ := nam_e hF
    have hk17 : ∀ (y16 : Int32) (σ18 : St), k17 y16 σ18 = some (r, σ') → Rt G p l e (lvl 4) s m args below meth c 0 0 (MQ below (va_Qi (fun a b => a = r ∧ b = σ') (Wd G) (AG G)) args s 0 0 (AG G)) 2 65 [(0, vR (40, 0, 0)), (1, vI y13)] [vI y16, vR (40, 0, 0)] σ18 := by
      intro y16 σ18 hF
      subst ek17
      refine r_bipush (v := (6 : Int32)) C dX11_text_65 rfl ?_
      obtain ⟨⟨⟩, σ19, e20, hF⟩ := bd_e hF
      refine r_callV_v (as := [vI y16, vI (6 : Int32)]) (st := []) C dX11_text_67 (s_X11_needs G l e20) rfl rfl rfl t_5_172 t_5_174 t_s_25 t_1_14 t_5_175 m_X11_needs ⟨Nat.le_of_ble_eq_true rfl, Nat.le_of_ble_eq_true rfl⟩ ⟨rfl, rfl⟩ ⟨Nat.zero_le _, Nat.zero_le _⟩ rfl (Nat.le_of_ble_eq_true rfl) ?_
      refine r_aload_n C 0 0 dX11_text_70 rfl rfl ?_
      refine r_iconst (v := (0 : Int32)) C dX11_text_71 rfl ?_
      obtain ⟨σ21, eσ21, hF⟩ := nam_e hF
      refine r_put (kf := 8) (ty0 := tyX11) C dX11_text_72 rfl rfl f_X11 tyX11_ok nmX11 (by decide) t_5_64 rfl rfl rfl rfl eσ21 ?_
      refine r_aload_n C 0 0 dX11_text_75 rfl rfl ?_
      refine r_getI (kf := 13) C dX11_text_76 rfl rfl f_X11 (by decide) t_5_69 rfl ?_
      refine r_if_le C 90 dX11_text_79 (by decide)  (fun h24 => ?_) (fun h24 => ?_)
      · have hF := if_t h24 hF
        refine r_aload_n C 0 0 dX11_text_90 rfl rfl ?_
        obtain ⟨⟨⟩, σ22, e23, hF⟩ := bd_e hF
        refine r_callV_v (as := []) (st := []) C dX11_text_91 (s_X11_keepDraft G l e23) rfl rfl rfl t_5_52 t_5_54 t_s_22 t_1_14 t_5_55 m_X11_keepDraft ⟨Nat.le_of_ble_eq_true rfl, Nat.le_of_ble_eq_true rfl⟩ ⟨rfl, rfl⟩ ⟨Nat.zero_le _, Nat.zero_le _⟩ rfl (Nat.le_of_ble_eq_true rfl) ?_
        refine r_iload_n C 1 1 dX11_text_94 rfl rfl ?_
        exact r_ireturn C dX11_text_95 (rt_e hF)
      · have hF := if_f h24 hF
        refine r_bipush (v := (-10 : Int32)) C dX11_text_82 rfl ?_
        refine r_aload_n C 0 0 dX11_text_84 rfl rfl ?_
        refine r_getI (kf := 14) C dX11_text_85 rfl rfl f_X11 (by decide) t_5_70 rfl ?_
        refine r_isub C dX11_text_88 ?_
        exact r_ireturn C dX11_text_89 (rt_e hF)
    refine r_icmp_gt C 64 dX11_text_57 (by decide)  (fun h25 => ?_) (fun h25 => ?_)
    · have hF := if_t h25 hF
      refine r_iconst (v := (0 : Int32)) C dX11_text_64 rfl ?_
      exact hk17 _ _ hF
    · have hF := if_f h25 hF
      refine r_iconst (v := (1 : Int32)) C dX11_text_60 rfl ?_
      refine r_goto C 65 dX11_text_61 (by decide) ?_
      exact hk17 _ _ hF
def F_X11_fault  (σ : St) : Option (Int32 × St) :=
  some (σ.1 (40, 0, 0) 13, σ)
set_option maxRecDepth 20000 in
set_option maxHeartbeats 4000000 in
theorem s_X11_fault (G : Gx) (l : Launch)  {σ σ' : St} {r : Int32} (hF : F_X11_fault  σ = some (r, σ')) : Sp G l yX11_fault cX11_fault 1 (some .int) (lvl 0) [vR (40, 0, 0)] σ (va_Qi (fun a b => a = r ∧ b = σ') (Wd G) (AG G)) := by
  refine Sp_of (own := RX11) (by decide) rfl (Nat.le_of_ble_eq_true rfl) ?_
  intro p e s m args below meth c C
  show Rt G p l e (lvl 0) s m args below meth c 0 0 (MQ below (va_Qi (fun a b => a = r ∧ b = σ') (Wd G) (AG G)) args s 0 0 (AG G)) 1 0 [(0, vR (40, 0, 0))] [] σ
  unfold F_X11_fault at hF
  refine r_aload_n C 0 0 dX11_fault_0 rfl rfl ?_
  refine r_getI (kf := 13) C dX11_fault_1 rfl rfl f_X11 (by decide) t_5_69 rfl ?_
  exact r_ireturn C dX11_fault_4 (rt_e hF)
def F_X11_rule (a1 : Int32) (σ : St) : Option (Int32 × St) :=
  bd (F_X11_in (a1.toInt64) (0 : Int64) (8 : Int64) σ) fun r2 σ1 => (if r2 = 0 then some ((-1 : Int32), σ1) else ck (inb a1 9) (some (σ1.1 (43, 0, 0) (a1.toNatClampNeg), σ1)))
set_option maxRecDepth 20000 in
set_option maxHeartbeats 4000000 in
theorem s_X11_rule (G : Gx) (l : Launch) {a1 : Int32} {σ σ' : St} {r : Int32} (hF : F_X11_rule a1 σ = some (r, σ')) : Sp G l yX11_rule cX11_rule 2 (some .int) (lvl 1) [vR (40, 0, 0), vI a1] σ (va_Qi (fun a b => a = r ∧ b = σ') (Wd G) (AG G)) := by
  refine Sp_of (own := RX11) (by decide) rfl (Nat.le_of_ble_eq_true rfl) ?_
  intro p e s m args below meth c C
  show Rt G p l e (lvl 1) s m args below meth c 0 0 (MQ below (va_Qi (fun a b => a = r ∧ b = σ') (Wd G) (AG G)) args s 0 0 (AG G)) 2 0 [(0, vR (40, 0, 0)), (1, vI a1)] [] σ
  unfold F_X11_rule at hF
  refine r_iload_n C 1 1 dX11_rule_0 rfl rfl ?_
  refine r_i2l C dX11_rule_1 ?_
  refine r_lconst (v := (0 : Int64)) C dX11_rule_2 rfl ?_
  refine r_ldc2_w (v := (8 : Int64)) C dX11_rule_3 t_5_218 ?_
  obtain ⟨r2, σ1, e3, hF⟩ := bd_e hF
  refine r_callS_i (as := [vL (a1.toInt64), vL (0 : Int64), vL (8 : Int64)]) (st := []) C dX11_rule_6 (s_X11_in G l e3) t_5_153 t_5_154 t_1_14 t_5_155 m_X11_in ⟨Nat.le_of_ble_eq_true rfl, Nat.le_of_ble_eq_true rfl⟩ ⟨rfl, rfl⟩ ⟨Nat.zero_le _, Nat.zero_le _⟩ rfl (Nat.le_of_ble_eq_true rfl) ?_
  refine r_if_eq C 21 dX11_rule_9 (by decide)  (fun h5 => ?_) (fun h5 => ?_)
  · have hF := if_t h5 hF
    refine r_iconst (v := (-1 : Int32)) C dX11_rule_21 rfl ?_
    exact r_ireturn C dX11_rule_22 (rt_e hF)
  · have hF := if_f h5 hF
    refine r_aload_n C 0 0 dX11_rule_12 rfl rfl ?_
    refine r_getR (kf := 2) (d2 := (43, 0, 0)) C dX11_rule_13 rfl rfl f_X11 (by decide) t_5_58 rfl rfl ?_
    refine r_iload_n C 1 1 dX11_rule_16 rfl rfl ?_
    obtain ⟨h4, hF⟩ := ck_e hF
    refine r_iaload C (a1.toNatClampNeg) dX11_rule_17 rfl h4 rfl ?_
    refine r_goto C 22 dX11_rule_18 (by decide) ?_
    exact r_ireturn C dX11_rule_22 (rt_e hF)
def F_X11_isCell (a0 : Int32) (σ : St) : Option (Int32 × St) :=
  bd (F_X11_in (a0.toInt64) (0 : Int64) (95 : Int64) σ) fun r2 σ1 => ck (decide (r2 = 0 ∨ r2 = 1)) (some (r2, σ1))
set_option maxRecDepth 20000 in
set_option maxHeartbeats 4000000 in
theorem s_X11_isCell (G : Gx) (l : Launch) {a0 : Int32} {σ σ' : St} {r : Int32} (hF : F_X11_isCell a0 σ = some (r, σ')) : Sp G l yX11_isCell cX11_isCell 1 (some .boolean) (lvl 1) [vI a0] σ (va_Qi (fun a b => a = r ∧ b = σ') (Wd G) (AG G)) := by
  refine Sp_of (own := RX11) (by decide) rfl (Nat.le_of_ble_eq_true rfl) ?_
  intro p e s m args below meth c C
  show Rt G p l e (lvl 1) s m args below meth c 0 0 (MQ below (va_Qi (fun a b => a = r ∧ b = σ') (Wd G) (AG G)) args s 0 0 (AG G)) 1 0 [(0, vI a0)] [] σ
  unfold F_X11_isCell at hF
  refine r_iload_n C 0 0 dX11_isCell_0 rfl rfl ?_
  refine r_i2l C dX11_isCell_1 ?_
  refine r_lconst (v := (0 : Int64)) C dX11_isCell_2 rfl ?_
  refine r_ldc2_w (v := (95 : Int64)) C dX11_isCell_3 t_5_226 ?_
  obtain ⟨r2, σ1, e3, hF⟩ := bd_e hF
  refine r_callS_i (as := [vL (a0.toInt64), vL (0 : Int64), vL (95 : Int64)]) (st := []) C dX11_isCell_6 (s_X11_in G l e3) t_5_153 t_5_154 t_1_14 t_5_155 m_X11_in ⟨Nat.le_of_ble_eq_true rfl, Nat.le_of_ble_eq_true rfl⟩ ⟨rfl, rfl⟩ ⟨Nat.zero_le _, Nat.zero_le _⟩ rfl (Nat.le_of_ble_eq_true rfl) ?_
  obtain ⟨h4, hF⟩ := ck_e hF
  exact r_zreturn C dX11_isCell_9 (nar_z (bz h4)) (rt_e hF)
def F_X11_cell (a1 : Int32) (σ : St) : Option (Int32 × St) :=
  bd (F_X11_isCell a1 σ) fun r2 σ1 => (if r2 = 0 then some ((-1 : Int32), σ1) else ck (inb a1 576) (some (σ1.1 (41, 0, 0) (a1.toNatClampNeg), σ1)))
set_option maxRecDepth 20000 in
set_option maxHeartbeats 4000000 in
theorem s_X11_cell (G : Gx) (l : Launch) {a1 : Int32} {σ σ' : St} {r : Int32} (hF : F_X11_cell a1 σ = some (r, σ')) : Sp G l yX11_cell cX11_cell 2 (some .int) (lvl 2) [vR (40, 0, 0), vI a1] σ (va_Qi (fun a b => a = r ∧ b = σ') (Wd G) (AG G)) := by
  refine Sp_of (own := RX11) (by decide) rfl (Nat.le_of_ble_eq_true rfl) ?_
  intro p e s m args below meth c C
  show Rt G p l e (lvl 2) s m args below meth c 0 0 (MQ below (va_Qi (fun a b => a = r ∧ b = σ') (Wd G) (AG G)) args s 0 0 (AG G)) 2 0 [(0, vR (40, 0, 0)), (1, vI a1)] [] σ
  unfold F_X11_cell at hF
  refine r_iload_n C 1 1 dX11_cell_0 rfl rfl ?_
  obtain ⟨r2, σ1, e3, hF⟩ := bd_e hF
  refine r_callS_i (as := [vI a1]) (st := []) C dX11_cell_1 (s_X11_isCell G l e3) t_5_223 t_5_224 t_1_14 t_5_225 m_X11_isCell ⟨Nat.le_of_ble_eq_true rfl, Nat.le_of_ble_eq_true rfl⟩ ⟨rfl, rfl⟩ ⟨Nat.zero_le _, Nat.zero_le _⟩ rfl (Nat.le_of_ble_eq_true rfl) ?_
  refine r_if_eq C 16 dX11_cell_4 (by decide)  (fun h5 => ?_) (fun h5 => ?_)
  · have hF := if_t h5 hF
    refine r_iconst (v := (-1 : Int32)) C dX11_cell_16 rfl ?_
    exact r_ireturn C dX11_cell_17 (rt_e hF)
  · have hF := if_f h5 hF
    refine r_aload_n C 0 0 dX11_cell_7 rfl rfl ?_
    refine r_getR (kf := 0) (d2 := (41, 0, 0)) C dX11_cell_8 rfl rfl f_X11 (by decide) t_5_56 rfl rfl ?_
    refine r_iload_n C 1 1 dX11_cell_11 rfl rfl ?_
    obtain ⟨h4, hF⟩ := ck_e hF
    refine r_iaload C (a1.toNatClampNeg) dX11_cell_12 rfl h4 rfl ?_
    refine r_goto C 17 dX11_cell_13 (by decide) ?_
    exact r_ireturn C dX11_cell_17 (rt_e hF)
def F_X11_isThere (a1 : Int32) (σ : St) : Option (Int32 × St) :=
  ck (inb ((132 : Int32) + a1) 576) ((if (σ.1 (41, 0, 0) (((132 : Int32) + a1).toNatClampNeg)) = 0 then some ((1 : Int32), σ) else some ((0 : Int32), σ)))
set_option maxRecDepth 20000 in
set_option maxHeartbeats 4000000 in
theorem s_X11_isThere (G : Gx) (l : Launch) {a1 : Int32} {σ σ' : St} {r : Int32} (hF : F_X11_isThere a1 σ = some (r, σ')) : Sp G l yX11_isThere cX11_isThere 2 (some .boolean) (lvl 0) [vR (40, 0, 0), vI a1] σ (va_Qi (fun a b => a = r ∧ b = σ') (Wd G) (AG G)) := by
  refine Sp_of (own := RX11) (by decide) rfl (Nat.le_of_ble_eq_true rfl) ?_
  intro p e s m args below meth c C
  show Rt G p l e (lvl 0) s m args below meth c 0 0 (MQ below (va_Qi (fun a b => a = r ∧ b = σ') (Wd G) (AG G)) args s 0 0 (AG G)) 2 0 [(0, vR (40, 0, 0)), (1, vI a1)] [] σ
  unfold F_X11_isThere at hF
  refine r_aload_n C 0 0 dX11_isThere_0 rfl rfl ?_
  refine r_getR (kf := 0) (d2 := (41, 0, 0)) C dX11_isThere_1 rfl rfl f_X11 (by decide) t_5_56 rfl rfl ?_
  refine r_sipush (v := (132 : Int32)) C dX11_isThere_4 rfl ?_
  refine r_iload_n C 1 1 dX11_isThere_7 rfl rfl ?_
  refine r_iadd C dX11_isThere_8 ?_
  obtain ⟨h1, hF⟩ := ck_e hF
  refine r_iaload C (((132 : Int32) + a1).toNatClampNeg) dX11_isThere_9 rfl h1 rfl ?_
  refine r_if_ne C 17 dX11_isThere_10 (by decide)  (fun h2 => ?_) (fun h2 => ?_)
  · have hF := if_f h2 hF
    refine r_iconst (v := (0 : Int32)) C dX11_isThere_17 rfl ?_
    exact r_zreturn C dX11_isThere_18 (nar_z (Or.inl rfl)) (rt_e hF)
  · have hF := if_t h2 hF
    refine r_iconst (v := (1 : Int32)) C dX11_isThere_13 rfl ?_
    refine r_goto C 18 dX11_isThere_14 (by decide) ?_
    exact r_zreturn C dX11_isThere_18 (nar_z (Or.inr rfl)) (rt_e hF)
def L_X11_inCell_2 (c1 : Int32) (c2 : Int32) : Nat → Int32 → St → Option (Int32 × St)
  | 0, _, _ => none
  | n + 1, v3, τ =>
  ck (inb (176 : Int32) 576) ((if (τ.1 (41, 0, 0) 176) ≤ v3 then some ((-4 : Int32), τ) else (if v3 = c2 then nam (v3 + (1 : Int32)) fun x2 => L_X11_inCell_2 c1 c2 n x2 τ else bd (F_X11_isThere v3 τ) fun r4 σ3 => (if r4 = 0 then nam (v3 + (1 : Int32)) fun x6 => L_X11_inCell_2 c1 c2 n x6 σ3 else ck (inb ((96 : Int32) + v3) 576) ((if (σ3.1 (41, 0, 0) (((96 : Int32) + v3).toNatClampNeg)) = c1 then some (v3, σ3) else nam (v3 + (1 : Int32)) fun x8 => L_X11_inCell_2 c1 c2 n x8 σ3))))))
def F_X11_inCell (a1 : Int32) (a2 : Int32) (σ : St) : Option (Int32 × St) :=
  L_X11_inCell_2 a1 a2 FU (0 : Int32) σ 
set_option maxRecDepth 20000 in
set_option maxHeartbeats 4000000 in
theorem l_X11_inCell_2 {G : Gx} {p : Program} {l : Launch} {e : Env} {s : State} {m : MethodId} {args : Array Value} {below : List Frame} {meth : Method} {c : Code} (C : Cx G p s m args meth c (some .int) 4 RX11 cX11_inCell) (c1 : Int32) (c2 : Int32) {σ' : St} {r : Int32} : ∀ (n : Nat) (v3 : Int32) (τ : St), L_X11_inCell_2 c1 c2 n v3 τ = some (r, σ') → Rt G p l e (lvl 1) s m args below meth c 0 0 (MQ below (va_Qi (fun a b => a = r ∧ b = σ') (Wd G) (AG G)) args s 0 0 (AG G)) 4 2 [(0, vR (40, 0, 0)), (1, vI c1), (2, vI c2), (3, vI v3)] [] τ := by
  intro n
  induction n with
  | zero => intro v3 τ hF; cases hF
  | succ n ih =>
    intro v3 τ hF
    unfold L_X11_inCell_2 at hF
    refine r_iload_n C 3 3 dX11_inCell_2 rfl rfl ?_
    refine r_aload_n C 0 0 dX11_inCell_3 rfl rfl ?_
    refine r_getR (kf := 0) (d2 := (41, 0, 0)) C dX11_inCell_4 rfl rfl f_X11 (by decide) t_5_56 rfl rfl ?_
    refine r_sipush (v := (176 : Int32)) C dX11_inCell_7 rfl ?_
    obtain ⟨h1, hF⟩ := ck_e hF
    refine r_iaload C 176 dX11_inCell_10 rfl h1 rfl ?_
    refine r_icmp_ge C 48 dX11_inCell_11 (by decide)  (fun h12 => ?_) (fun h12 => ?_)
    · have hF := if_t h12 hF
      refine r_bipush (v := (-4 : Int32)) C dX11_inCell_48 rfl ?_
      exact r_ireturn C dX11_inCell_50 (rt_e hF)
    · have hF := if_f h12 hF
      refine r_iload_n C 3 3 dX11_inCell_14 rfl rfl ?_
      refine r_iload_n C 2 2 dX11_inCell_15 rfl rfl ?_
      refine r_icmp_eq C 42 dX11_inCell_16 (by decide)  (fun h11 => ?_) (fun h11 => ?_)
      · have hF := if_t h11 hF
        obtain ⟨x2, ex2, hF⟩ := nam_e hF
        refine r_iinc (v := x2) (ls2 := [(3, vI x2), (0, vR (40, 0, 0)), (1, vI c1), (2, vI c2)]) C 3 dX11_inCell_42 rfl ex2.symm (by decide) rfl ?_
        refine r_goto C 2 dX11_inCell_45 (by decide) ?_
        refine r_drop (ls2 := [(0, vR (40, 0, 0)), (1, vI c1), (2, vI c2), (3, vI x2)]) [1, 2, 3, 0] rfl ?_
        exact ih _ _ hF
      · have hF := if_f h11 hF
        refine r_aload_n C 0 0 dX11_inCell_19 rfl rfl ?_
        refine r_iload_n C 3 3 dX11_inCell_20 rfl rfl ?_
        obtain ⟨r4, σ3, e5, hF⟩ := bd_e hF
        refine r_callV_i (as := [vI v3]) (st := []) C dX11_inCell_21 (s_X11_isThere G l e5) rfl rfl rfl t_5_239 t_6_1 t_s_34 t_1_14 t_6_2 m_X11_isThere ⟨Nat.le_of_ble_eq_true rfl, Nat.le_of_ble_eq_true rfl⟩ ⟨rfl, rfl⟩ ⟨Nat.zero_le _, Nat.zero_le _⟩ rfl (Nat.le_of_ble_eq_true rfl) ?_
        refine r_if_eq C 42 dX11_inCell_24 (by decide)  (fun h10 => ?_) (fun h10 => ?_)
        · have hF := if_t h10 hF
          obtain ⟨x6, ex6, hF⟩ := nam_e hF
          refine r_iinc (v := x6) (ls2 := [(3, vI x6), (0, vR (40, 0, 0)), (1, vI c1), (2, vI c2)]) C 3 dX11_inCell_42 rfl ex6.symm (by decide) rfl ?_
          refine r_goto C 2 dX11_inCell_45 (by decide) ?_
          refine r_drop (ls2 := [(0, vR (40, 0, 0)), (1, vI c1), (2, vI c2), (3, vI x6)]) [1, 2, 3, 0] rfl ?_
          exact ih _ _ hF
        · have hF := if_f h10 hF
          refine r_aload_n C 0 0 dX11_inCell_27 rfl rfl ?_
          refine r_getR (kf := 0) (d2 := (41, 0, 0)) C dX11_inCell_28 rfl rfl f_X11 (by decide) t_5_56 rfl rfl ?_
          refine r_bipush (v := (96 : Int32)) C dX11_inCell_31 rfl ?_
          refine r_iload_n C 3 3 dX11_inCell_33 rfl rfl ?_
          refine r_iadd C dX11_inCell_34 ?_
          obtain ⟨h7, hF⟩ := ck_e hF
          refine r_iaload C (((96 : Int32) + v3).toNatClampNeg) dX11_inCell_35 rfl h7 rfl ?_
          refine r_iload_n C 1 1 dX11_inCell_36 rfl rfl ?_
          refine r_icmp_ne C 42 dX11_inCell_37 (by decide)  (fun h9 => ?_) (fun h9 => ?_)
          · have hF := if_f h9 hF
            obtain ⟨x8, ex8, hF⟩ := nam_e hF
            refine r_iinc (v := x8) (ls2 := [(3, vI x8), (0, vR (40, 0, 0)), (1, vI c1), (2, vI c2)]) C 3 dX11_inCell_42 rfl ex8.symm (by decide) rfl ?_
            refine r_goto C 2 dX11_inCell_45 (by decide) ?_
            refine r_drop (ls2 := [(0, vR (40, 0, 0)), (1, vI c1), (2, vI c2), (3, vI x8)]) [1, 2, 3, 0] rfl ?_
            exact ih _ _ hF
          · have hF := if_t h9 hF
            refine r_iload_n C 3 3 dX11_inCell_40 rfl rfl ?_
            exact r_ireturn C dX11_inCell_41 (rt_e hF)
set_option maxRecDepth 20000 in
set_option maxHeartbeats 4000000 in
theorem s_X11_inCell (G : Gx) (l : Launch) {a1 : Int32} {a2 : Int32} {σ σ' : St} {r : Int32} (hF : F_X11_inCell a1 a2 σ = some (r, σ')) : Sp G l yX11_inCell cX11_inCell 4 (some .int) (lvl 1) [vR (40, 0, 0), vI a1, vI a2] σ (va_Qi (fun a b => a = r ∧ b = σ') (Wd G) (AG G)) := by
  refine Sp_of (own := RX11) (by decide) rfl (Nat.le_of_ble_eq_true rfl) ?_
  intro p e s m args below meth c C
  show Rt G p l e (lvl 1) s m args below meth c 0 0 (MQ below (va_Qi (fun a b => a = r ∧ b = σ') (Wd G) (AG G)) args s 0 0 (AG G)) 4 0 [(0, vR (40, 0, 0)), (1, vI a1), (2, vI a2)] [] σ
  unfold F_X11_inCell at hF
  refine r_iconst (v := (0 : Int32)) C dX11_inCell_0 rfl ?_
  refine r_istore_n (ls2 := [(3, vI (0 : Int32)), (0, vR (40, 0, 0)), (1, vI a1), (2, vI a2)]) C dX11_inCell_1 3 rfl (by decide) rfl ?_
  refine r_drop (ls2 := [(0, vR (40, 0, 0)), (1, vI a1), (2, vI a2), (3, vI (0 : Int32))]) [1, 2, 3, 0] rfl ?_
  refine l_X11_inCell_2 C a1 a2  _ _ _ hF
def F_X11_isShut (a0 : Int32) (σ : St) : Option (Int32 × St) :=
  (if a0 = (5 : Int32) then some ((1 : Int32), σ) else (if a0 = (6 : Int32) then some ((1 : Int32), σ) else some ((0 : Int32), σ)))
set_option maxRecDepth 20000 in
set_option maxHeartbeats 4000000 in
theorem s_X11_isShut (G : Gx) (l : Launch) {a0 : Int32} {σ σ' : St} {r : Int32} (hF : F_X11_isShut a0 σ = some (r, σ')) : Sp G l yX11_isShut cX11_isShut 1 (some .boolean) (lvl 0) [vI a0] σ (va_Qi (fun a b => a = r ∧ b = σ') (Wd G) (AG G)) := by
  refine Sp_of (own := RX11) (by decide) rfl (Nat.le_of_ble_eq_true rfl) ?_
  intro p e s m args below meth c C
  show Rt G p l e (lvl 0) s m args below meth c 0 0 (MQ below (va_Qi (fun a b => a = r ∧ b = σ') (Wd G) (AG G)) args s 0 0 (AG G)) 1 0 [(0, vI a0)] [] σ
  unfold F_X11_isShut at hF
  refine r_iload_n C 0 0 dX11_isShut_0 rfl rfl ?_
  refine r_iconst (v := (5 : Int32)) C dX11_isShut_1 rfl ?_
  refine r_icmp_eq C 11 dX11_isShut_2 (by decide)  (fun h2 => ?_) (fun h2 => ?_)
  · have hF := if_t h2 hF
    refine r_iconst (v := (1 : Int32)) C dX11_isShut_11 rfl ?_
    refine r_goto C 16 dX11_isShut_12 (by decide) ?_
    exact r_zreturn C dX11_isShut_16 (nar_z (Or.inr rfl)) (rt_e hF)
  · have hF := if_f h2 hF
    refine r_iload_n C 0 0 dX11_isShut_5 rfl rfl ?_
    refine r_bipush (v := (6 : Int32)) C dX11_isShut_6 rfl ?_
    refine r_icmp_ne C 15 dX11_isShut_8 (by decide)  (fun h1 => ?_) (fun h1 => ?_)
    · have hF := if_f h1 hF
      refine r_iconst (v := (0 : Int32)) C dX11_isShut_15 rfl ?_
      exact r_zreturn C dX11_isShut_16 (nar_z (Or.inl rfl)) (rt_e hF)
    · have hF := if_t h1 hF
      refine r_iconst (v := (1 : Int32)) C dX11_isShut_11 rfl ?_
      refine r_goto C 16 dX11_isShut_12 (by decide) ?_
      exact r_zreturn C dX11_isShut_16 (nar_z (Or.inr rfl)) (rt_e hF)
def F_X11_put (a1 : Int32) (a2 : Int32) (σ : St) : Option (Int32 × St) :=
  bd (F_X11_isCell a1 σ) fun r2 σ1 => (if r2 = 0 then some ((-1 : Int32), σ1) else bd (F_X11_in (a2.toInt64) (0 : Int64) (7 : Int64) σ1) fun r5 σ4 => (if r5 = 0 then some ((-1 : Int32), σ4) else bd (F_X11_isShut a2 σ4) fun r8 σ7 => (if r8 = 0 then ck (inb a1 576) (nam (σ7.1 (41, 0, 0) (a1.toNatClampNeg)) fun x11 => ck (inb a1 576) (nam (uI σ7 (41, 0, 0) (a1.toNatClampNeg) a2) fun σ13 => some (x11, σ13))) else bd (F_X11_inCell a1 (-4 : Int32) σ7) fun r15 σ14 => (if r15 = (-4 : Int32) then ck (inb a1 576) (nam (σ14.1 (41, 0, 0) (a1.toNatClampNeg)) fun x18 => ck (inb a1 576) (nam (uI σ14 (41, 0, 0) (a1.toNatClampNeg) a2) fun σ20 => some (x18, σ20))) else some ((-2 : Int32), σ14)))))
set_option maxRecDepth 20000 in
set_option maxHeartbeats 4000000 in
theorem s_X11_put (G : Gx) (l : Launch) {a1 : Int32} {a2 : Int32} {σ σ' : St} {r : Int32} (hF : F_X11_put a1 a2 σ = some (r, σ')) : Sp G l yX11_put cX11_put 4 (some .int) (lvl 2) [vR (40, 0, 0), vI a1, vI a2] σ (va_Qi (fun a b => a = r ∧ b = σ') (Wd G) (AG G)) := by
  refine Sp_of (own := RX11) (by decide) rfl (Nat.le_of_ble_eq_true rfl) ?_
  intro p e s m args below meth c C
  show Rt G p l e (lvl 2) s m args below meth c 0 0 (MQ below (va_Qi (fun a b => a = r ∧ b = σ') (Wd G) (AG G)) args s 0 0 (AG G)) 4 0 [(0, vR (40, 0, 0)), (1, vI a1), (2, vI a2)] [] σ
  unfold F_X11_put at hF
  refine r_iload_n C 1 1 dX11_put_0 rfl rfl ?_
  obtain ⟨r2, σ1, e3, hF⟩ := bd_e hF
  refine r_callS_i (as := [vI a1]) (st := []) C dX11_put_1 (s_X11_isCell G l e3) t_5_223 t_5_224 t_1_14 t_5_225 m_X11_isCell ⟨Nat.le_of_ble_eq_true rfl, Nat.le_of_ble_eq_true rfl⟩ ⟨rfl, rfl⟩ ⟨Nat.zero_le _, Nat.zero_le _⟩ rfl (Nat.le_of_ble_eq_true rfl) ?_
  refine r_if_eq C 19 dX11_put_4 (by decide)  (fun h24 => ?_) (fun h24 => ?_)
  · have hF := if_t h24 hF
    refine r_iconst (v := (-1 : Int32)) C dX11_put_19 rfl ?_
    exact r_ireturn C dX11_put_20 (rt_e hF)
  · have hF := if_f h24 hF
    refine r_iload_n C 2 2 dX11_put_7 rfl rfl ?_
    refine r_i2l C dX11_put_8 ?_
    refine r_lconst (v := (0 : Int64)) C dX11_put_9 rfl ?_
    refine r_ldc2_w (v := (7 : Int64)) C dX11_put_10 t_5_231 ?_
    obtain ⟨r5, σ4, e6, hF⟩ := bd_e hF
    refine r_callS_i (as := [vL (a2.toInt64), vL (0 : Int64), vL (7 : Int64)]) (st := []) C dX11_put_13 (s_X11_in G l e6) t_5_153 t_5_154 t_1_14 t_5_155 m_X11_in ⟨Nat.le_of_ble_eq_true rfl, Nat.le_of_ble_eq_true rfl⟩ ⟨rfl, rfl⟩ ⟨Nat.zero_le _, Nat.zero_le _⟩ rfl (Nat.le_of_ble_eq_true rfl) ?_
    refine r_if_ne C 21 dX11_put_16 (by decide)  (fun h23 => ?_) (fun h23 => ?_)
    · have hF := if_f h23 hF
      refine r_iload_n C 2 2 dX11_put_21 rfl rfl ?_
      obtain ⟨r8, σ7, e9, hF⟩ := bd_e hF
      refine r_callS_i (as := [vI a2]) (st := []) C dX11_put_22 (s_X11_isShut G l e9) t_5_232 t_5_233 t_1_14 t_5_234 m_X11_isShut ⟨Nat.le_of_ble_eq_true rfl, Nat.le_of_ble_eq_true rfl⟩ ⟨rfl, rfl⟩ ⟨Nat.zero_le _, Nat.zero_le _⟩ rfl (Nat.le_of_ble_eq_true rfl) ?_
      refine r_if_eq C 43 dX11_put_25 (by decide)  (fun h22 => ?_) (fun h22 => ?_)
      · have hF := if_t h22 hF
        refine r_aload_n C 0 0 dX11_put_43 rfl rfl ?_
        refine r_getR (kf := 0) (d2 := (41, 0, 0)) C dX11_put_44 rfl rfl f_X11 (by decide) t_5_56 rfl rfl ?_
        refine r_iload_n C 1 1 dX11_put_47 rfl rfl ?_
        obtain ⟨h10, hF⟩ := ck_e hF
        refine r_iaload C (a1.toNatClampNeg) dX11_put_48 rfl h10 rfl ?_
        obtain ⟨x11, ex11, hF⟩ := nam_e hF
        refine r_topI ex11 ?_
        refine r_istore_n (ls2 := [(3, vI x11), (0, vR (40, 0, 0)), (1, vI a1), (2, vI a2)]) C dX11_put_49 3 rfl (by decide) rfl ?_
        refine r_aload_n C 1 0 dX11_put_50 rfl rfl ?_
        refine r_getR (kf := 0) (d2 := (41, 0, 0)) C dX11_put_51 rfl rfl f_X11 (by decide) t_5_56 rfl rfl ?_
        refine r_iload_n C 2 1 dX11_put_54 rfl rfl ?_
        refine r_iload_n C 3 2 dX11_put_55 rfl rfl ?_
        obtain ⟨h12, hF⟩ := ck_e hF
        obtain ⟨σ13, eσ13, hF⟩ := nam_e hF
        refine r_iastore C (a1.toNatClampNeg) dX11_put_56 rfl h12 rfl eσ13 ?_
        refine r_iload_n C 0 3 dX11_put_57 rfl rfl ?_
        exact r_ireturn C dX11_put_58 (rt_e hF)
      · have hF := if_f h22 hF
        refine r_aload_n C 0 0 dX11_put_28 rfl rfl ?_
        refine r_iload_n C 1 1 dX11_put_29 rfl rfl ?_
        refine r_bipush (v := (-4 : Int32)) C dX11_put_30 rfl ?_
        obtain ⟨r15, σ14, e16, hF⟩ := bd_e hF
        refine r_callV_i (as := [vI a1, vI (-4 : Int32)]) (st := []) C dX11_put_32 (s_X11_inCell G l e16) rfl rfl rfl t_5_235 t_5_237 t_s_33 t_1_14 t_5_238 m_X11_inCell ⟨Nat.le_of_ble_eq_true rfl, Nat.le_of_ble_eq_true rfl⟩ ⟨rfl, rfl⟩ ⟨Nat.zero_le _, Nat.zero_le _⟩ rfl (Nat.le_of_ble_eq_true rfl) ?_
        refine r_bipush (v := (-4 : Int32)) C dX11_put_35 rfl ?_
        refine r_icmp_eq C 43 dX11_put_37 (by decide)  (fun h21 => ?_) (fun h21 => ?_)
        · have hF := if_t h21 hF
          refine r_aload_n C 0 0 dX11_put_43 rfl rfl ?_
          refine r_getR (kf := 0) (d2 := (41, 0, 0)) C dX11_put_44 rfl rfl f_X11 (by decide) t_5_56 rfl rfl ?_
          refine r_iload_n C 1 1 dX11_put_47 rfl rfl ?_
          obtain ⟨h17, hF⟩ := ck_e hF
          refine r_iaload C (a1.toNatClampNeg) dX11_put_48 rfl h17 rfl ?_
          obtain ⟨x18, ex18, hF⟩ := nam_e hF
          refine r_topI ex18 ?_
          refine r_istore_n (ls2 := [(3, vI x18), (0, vR (40, 0, 0)), (1, vI a1), (2, vI a2)]) C dX11_put_49 3 rfl (by decide) rfl ?_
          refine r_aload_n C 1 0 dX11_put_50 rfl rfl ?_
          refine r_getR (kf := 0) (d2 := (41, 0, 0)) C dX11_put_51 rfl rfl f_X11 (by decide) t_5_56 rfl rfl ?_
          refine r_iload_n C 2 1 dX11_put_54 rfl rfl ?_
          refine r_iload_n C 3 2 dX11_put_55 rfl rfl ?_
          obtain ⟨h19, hF⟩ := ck_e hF
          obtain ⟨σ20, eσ20, hF⟩ := nam_e hF
          refine r_iastore C (a1.toNatClampNeg) dX11_put_56 rfl h19 rfl eσ20 ?_
          refine r_iload_n C 0 3 dX11_put_57 rfl rfl ?_
          exact r_ireturn C dX11_put_58 (rt_e hF)
        · have hF := if_f h21 hF
          refine r_bipush (v := (-2 : Int32)) C dX11_put_40 rfl ?_
          exact r_ireturn C dX11_put_42 (rt_e hF)
    · have hF := if_t h23 hF
      refine r_iconst (v := (-1 : Int32)) C dX11_put_19 rfl ?_
      exact r_ireturn C dX11_put_20 (rt_e hF)
def F_X11_heat (a1 : Int32) (σ : St) : Option (Int32 × St) :=
  bd (F_X11_in (a1.toInt64) (0 : Int64) (99 : Int64) σ) fun r2 σ1 => (if r2 = 0 then some ((-1 : Int32), σ1) else ck (inb (169 : Int32) 576) (nam (uI σ1 (41, 0, 0) 169 a1) fun σ5 => ck (inb (170 : Int32) 576) (nam (fun (y7 : Int32) (σ9 : St) => nam (fun (y10 : Int32) (σ12 : St) => bd (F_X11_flag y10 σ12) fun r14 σ13 => ck (inb (170 : Int32) 576) (nam (uI σ13 (41, 0, 0) 170 r14) fun σ17 => ck (inb (170 : Int32) 576) (some (σ17.1 (41, 0, 0) 170, σ17)))) fun k11 => (if a1 < y7 then k11 (0 : Int32) σ9 else k11 (1 : Int32) σ9)) fun k8 => (if (σ5.1 (41, 0, 0) 170) = (1 : Int32) then ck (inb (1 : Int32) 9) (k8 (σ5.1 (43, 0, 0) 1) σ5) else ck (inb (0 : Int32) 9) (k8 (σ5.1 (43, 0, 0) 0) σ5)))))
set_option maxRecDepth 20000 in
set_option maxHeartbeats 4000000 in
theorem s_X11_heat (G : Gx) (l : Launch) {a1 : Int32} {σ σ' : St} {r : Int32} (hF : F_X11_heat a1 σ = some (r, σ')) : Sp G l yX11_heat cX11_heat 2 (some .int) (lvl 1) [vR (40, 0, 0), vI a1] σ (va_Qi (fun a b => a = r ∧ b = σ') (Wd G) (AG G)) := by
  refine Sp_of (own := RX11) (by decide) rfl (Nat.le_of_ble_eq_true rfl) ?_
  intro p e s m args below meth c C
  show Rt G p l e (lvl 1) s m args below meth c 0 0 (MQ below (va_Qi (fun a b => a = r ∧ b = σ') (Wd G) (AG G)) args s 0 0 (AG G)) 2 0 [(0, vR (40, 0, 0)), (1, vI a1)] [] σ
  unfold F_X11_heat at hF
  refine r_iload_n C 1 1 dX11_heat_0 rfl rfl ?_
  refine r_i2l C dX11_heat_1 ?_
  refine r_lconst (v := (0 : Int64)) C dX11_heat_2 rfl ?_
  refine r_ldc2_w (v := (99 : Int64)) C dX11_heat_3 t_6_7 ?_
  obtain ⟨r2, σ1, e3, hF⟩ := bd_e hF
  refine r_callS_i (as := [vL (a1.toInt64), vL (0 : Int64), vL (99 : Int64)]) (st := []) C dX11_heat_6 (s_X11_in G l e3) t_5_153 t_5_154 t_1_14 t_5_155 m_X11_in ⟨Nat.le_of_ble_eq_true rfl, Nat.le_of_ble_eq_true rfl⟩ ⟨rfl, rfl⟩ ⟨Nat.zero_le _, Nat.zero_le _⟩ rfl (Nat.le_of_ble_eq_true rfl) ?_
  refine r_if_ne C 14 dX11_heat_9 (by decide)  (fun h23 => ?_) (fun h23 => ?_)
  · have hF := if_f h23 hF
    refine r_aload_n C 0 0 dX11_heat_14 rfl rfl ?_
    refine r_getR (kf := 0) (d2 := (41, 0, 0)) C dX11_heat_15 rfl rfl f_X11 (by decide) t_5_56 rfl rfl ?_
    refine r_sipush (v := (169 : Int32)) C dX11_heat_18 rfl ?_
    refine r_iload_n C 1 1 dX11_heat_21 rfl rfl ?_
    obtain ⟨h4, hF⟩ := ck_e hF
    obtain ⟨σ5, eσ5, hF⟩ := nam_e hF
    refine r_iastore C 169 dX11_heat_22 rfl h4 rfl eσ5 ?_
    refine r_aload_n C 0 0 dX11_heat_23 rfl rfl ?_
    refine r_getR (kf := 0) (d2 := (41, 0, 0)) C dX11_heat_24 rfl rfl f_X11 (by decide) t_5_56 rfl rfl ?_
    refine r_sipush (v := (170 : Int32)) C dX11_heat_27 rfl ?_
    refine r_iload_n C 1 1 dX11_heat_30 rfl rfl ?_
    refine r_aload_n C 0 0 dX11_heat_31 rfl rfl ?_
    refine r_getR (kf := 0) (d2 := (41, 0, 0)) C dX11_heat_32 rfl rfl f_X11 (by decide) t_5_56 rfl rfl ?_
    refine r_sipush (v := (170 : Int32)) C dX11_heat_35 rfl ?_
    obtain ⟨h6, hF⟩ := ck_e hF
    refine r_iaload C 170 dX11_heat_38 rfl h6 rfl ?_
    refine r_iconst (v := (1 : Int32)) C dX11_heat_39 rfl ?_
    obtain ⟨k8, ek8, hF⟩ := nam_e hF
    have hk8 : ∀ (y7 : Int32) (σ9 : St), k8 y7 σ9 = some (r, σ') → Rt G p l e (lvl 1) s m args below meth c 0 0 (MQ below (va_Qi (fun a b => a = r ∧ b = σ') (Wd G) (AG G)) args s 0 0 (AG G)) 2 58 [(0, vR (40, 0, 0))] [vI y7, vI a1, vI (170 : Int32), vR (41, 0, 0)] σ9 := by
      intro y7 σ9 hF
      subst ek8
      obtain ⟨k11, ek11, hF⟩ := nam_e hF
      have hk11 : ∀ (y10 : Int32) (σ12 : St), k11 y10 σ12 = some (r, σ') → Rt G p l e (lvl 1) s m args below meth c 0 0 (MQ below (va_Qi (fun a b => a = r ∧ b = σ') (Wd G) (AG G)) args s 0 0 (AG G)) 2 66 [(0, vR (40, 0, 0))] [vI y10, vI (170 : Int32), vR (41, 0, 0)] σ12 := by
        intro y10 σ12 hF
        subst ek11
        obtain ⟨r14, σ13, e15, hF⟩ := bd_e hF
        refine r_callS_i (as := [vI y10]) (st := [vI (170 : Int32), vR (41, 0, 0)]) C dX11_heat_66 (s_X11_flag G l e15) t_5_195 t_5_196 t_1_14 t_5_197 m_X11_flag ⟨Nat.le_of_ble_eq_true rfl, Nat.le_of_ble_eq_true rfl⟩ ⟨rfl, rfl⟩ ⟨Nat.zero_le _, Nat.zero_le _⟩ rfl (Nat.le_of_ble_eq_true rfl) ?_
        obtain ⟨h16, hF⟩ := ck_e hF
        obtain ⟨σ17, eσ17, hF⟩ := nam_e hF
        refine r_iastore C 170 dX11_heat_69 rfl h16 rfl eσ17 ?_
        refine r_aload_n C 0 0 dX11_heat_70 rfl rfl ?_
        refine r_getR (kf := 0) (d2 := (41, 0, 0)) C dX11_heat_71 rfl rfl f_X11 (by decide) t_5_56 rfl rfl ?_
        refine r_sipush (v := (170 : Int32)) C dX11_heat_74 rfl ?_
        obtain ⟨h18, hF⟩ := ck_e hF
        refine r_iaload C 170 dX11_heat_77 rfl h18 rfl ?_
        exact r_ireturn C dX11_heat_78 (rt_e hF)
      refine r_icmp_lt C 65 dX11_heat_58 (by decide)  (fun h19 => ?_) (fun h19 => ?_)
      · have hF := if_t h19 hF
        refine r_iconst (v := (0 : Int32)) C dX11_heat_65 rfl ?_
        exact hk11 _ _ hF
      · have hF := if_f h19 hF
        refine r_iconst (v := (1 : Int32)) C dX11_heat_61 rfl ?_
        refine r_goto C 66 dX11_heat_62 (by decide) ?_
        exact hk11 _ _ hF
    refine r_icmp_ne C 52 dX11_heat_40 (by decide)  (fun h22 => ?_) (fun h22 => ?_)
    · have hF := if_f h22 hF
      refine r_aload_n C 0 0 dX11_heat_52 rfl rfl ?_
      refine r_getR (kf := 2) (d2 := (43, 0, 0)) C dX11_heat_53 rfl rfl f_X11 (by decide) t_5_58 rfl rfl ?_
      refine r_iconst (v := (0 : Int32)) C dX11_heat_56 rfl ?_
      obtain ⟨h20, hF⟩ := ck_e hF
      refine r_iaload C 0 dX11_heat_57 rfl h20 rfl ?_
      refine r_drop (ls2 := [(0, vR (40, 0, 0))]) [0] rfl ?_
      exact hk8 _ _ hF
    · have hF := if_t h22 hF
      refine r_aload_n C 0 0 dX11_heat_43 rfl rfl ?_
      refine r_getR (kf := 2) (d2 := (43, 0, 0)) C dX11_heat_44 rfl rfl f_X11 (by decide) t_5_58 rfl rfl ?_
      refine r_iconst (v := (1 : Int32)) C dX11_heat_47 rfl ?_
      obtain ⟨h21, hF⟩ := ck_e hF
      refine r_iaload C 1 dX11_heat_48 rfl h21 rfl ?_
      refine r_goto C 58 dX11_heat_49 (by decide) ?_
      refine r_drop (ls2 := [(0, vR (40, 0, 0))]) [0] rfl ?_
      exact hk8 _ _ hF
  · have hF := if_t h23 hF
    refine r_iconst (v := (-1 : Int32)) C dX11_heat_12 rfl ?_
    exact r_ireturn C dX11_heat_13 (rt_e hF)
