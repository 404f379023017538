def F_X10_ring (a1 : Int32) (a2 : Int32) (a3 : Int32) (a4 : Int32) (σ : St) : Option (Int32 × St) :=
  bd (F_X10_isDropToBe a1 a2 a3 σ) fun r2 σ1 => (if r2 = 0 then some ((-1 : Int32), σ1) else bd (F_X10_within a4 (0 : Int32) (2 : Int32) σ1) fun r5 σ4 => (if r5 = 0 then some ((-1 : Int32), σ4) else bd (F_X6_isOpen 0 a1 σ4) fun r8 σ7 => (if r8 = 0 then some ((-2 : Int32), σ7) else bd (F_X3_follow 0 0 a1 a2 a3 σ7) fun r11 σ10 => (if r11 = (-4 : Int32) then (if a4 = (0 : Int32) then some (σ10.1 (16, 0, 0) 2, σ10) else (if a4 = (1 : Int32) then some (σ10.1 (16, 0, 0) 3, σ10) else bd (F_X3_cellsRound  σ10) fun r16 σ15 => some (r16, σ15))) else some ((-4 : Int32), σ10)))))
set_option maxRecDepth 20000 in
set_option maxHeartbeats 4000000 in
theorem s_X10_ring (G : Gx) (l : Launch) {a1 : Int32} {a2 : Int32} {a3 : Int32} {a4 : Int32} {σ σ' : St} {r : Int32} (hF : F_X10_ring a1 a2 a3 a4 σ = some (r, σ')) : Sp G l yX10_ring cX10_ring 5 (some .int) (lvl 3) [vR (0, 0, 0), vI a1, vI a2, vI a3, vI a4] σ (va_Qi (fun a b => a = r ∧ b = σ') (Wd G) (AG G)) := by
  refine Sp_of (own := RX10) (by decide) rfl (Nat.le_of_ble_eq_true rfl) ?_
  intro p e s m args below meth c C
  show Rt G p l e (lvl 3) s m args below meth c 0 0 (MQ below (va_Qi (fun a b => a = r ∧ b = σ') (Wd G) (AG G)) args s 0 0 (AG G)) 5 0 [(0, vR (0, 0, 0)), (1, vI a1), (2, vI a2), (3, vI a3), (4, vI a4)] [] σ
  unfold F_X10_ring at hF
  refine r_iload_n C 1 1 dX10_ring_0 rfl rfl ?_
  refine r_iload_n C 2 2 dX10_ring_1 rfl rfl ?_
  refine r_iload_n C 3 3 dX10_ring_2 rfl rfl ?_
  obtain ⟨r2, σ1, e3, hF⟩ := bd_e hF
  refine r_callS_i (as := [vI a1, vI a2, vI a3]) (st := []) C dX10_ring_3 (s_X10_isDropToBe G l e3) t_3_152 t_3_153 t_1_1 t_3_154 m_X10_isDropToBe ⟨Nat.le_of_ble_eq_true rfl, Nat.le_of_ble_eq_true rfl⟩ ⟨rfl, rfl⟩ ⟨Nat.zero_le _, Nat.zero_le _⟩ rfl (Nat.le_of_ble_eq_true rfl) ?_
  refine r_if_eq C 19 dX10_ring_6 (by decide)  (fun h21 => ?_) (fun h21 => ?_)
  · have hF := if_t h21 hF
    refine r_iconst (v := (-1 : Int32)) C dX10_ring_19 rfl ?_
    exact r_ireturn C dX10_ring_20 (rt_e hF)
  · have hF := if_f h21 hF
    refine r_iload C 4 dX10_ring_9 rfl ?_
    refine r_iconst (v := (0 : Int32)) C dX10_ring_11 rfl ?_
    refine r_iconst (v := (2 : Int32)) C dX10_ring_12 rfl ?_
    obtain ⟨r5, σ4, e6, hF⟩ := bd_e hF
    refine r_callS_i (as := [vI a4, vI (0 : Int32), vI (2 : Int32)]) (st := []) C dX10_ring_13 (s_X10_within G l e6) t_2_141 t_2_142 t_1_1 t_2_143 m_X10_within ⟨Nat.le_of_ble_eq_true rfl, Nat.le_of_ble_eq_true rfl⟩ ⟨rfl, rfl⟩ ⟨Nat.zero_le _, Nat.zero_le _⟩ rfl (Nat.le_of_ble_eq_true rfl) ?_
    refine r_if_ne C 21 dX10_ring_16 (by decide)  (fun h20 => ?_) (fun h20 => ?_)
    · have hF := if_f h20 hF
      refine r_aload_n C 0 0 dX10_ring_21 rfl rfl ?_
      refine r_getR (kf := 4) (d2 := (7, 0, 0)) C dX10_ring_22 rfl rfl f_X10 (by decide) t_2_100 rfl rfl ?_
      refine r_iload_n C 1 1 dX10_ring_25 rfl rfl ?_
      obtain ⟨r8, σ7, e9, hF⟩ := bd_e hF
      refine r_callV_i (as := [vI a1]) (st := []) C dX10_ring_26 (s_X6_isOpen G l e9) rfl rfl rfl t_3_161 t_3_162 t_3_163 t_1_5 t_3_164 m_X6_isOpen ⟨Nat.le_of_ble_eq_true rfl, Nat.le_of_ble_eq_true rfl⟩ ⟨rfl, rfl⟩ ⟨Nat.zero_le _, Nat.zero_le _⟩ rfl (Nat.le_of_ble_eq_true rfl) ?_
      refine r_if_ne C 35 dX10_ring_29 (by decide)  (fun h19 => ?_) (fun h19 => ?_)
      · have hF := if_f h19 hF
        refine r_aload_n C 0 0 dX10_ring_35 rfl rfl ?_
        refine r_getR (kf := 7) (d2 := (16, 0, 0)) C dX10_ring_36 rfl rfl f_X10 (by decide) t_2_103 rfl rfl ?_
        refine r_aload_n C 0 0 dX10_ring_39 rfl rfl ?_
        refine r_getR (kf := 4) (d2 := (7, 0, 0)) C dX10_ring_40 rfl rfl f_X10 (by decide) t_2_100 rfl rfl ?_
        refine r_aload_n C 0 0 dX10_ring_43 rfl rfl ?_
        refine r_getR (kf := 3) (d2 := (3, 0, 0)) C dX10_ring_44 rfl rfl f_X10 (by decide) t_2_99 rfl rfl ?_
        refine r_iload_n C 1 1 dX10_ring_47 rfl rfl ?_
        refine r_iload_n C 2 2 dX10_ring_48 rfl rfl ?_
        refine r_iload_n C 3 3 dX10_ring_49 rfl rfl ?_
        obtain ⟨r11, σ10, e12, hF⟩ := bd_e hF
        refine r_callV_i (as := [vR (7, 0, 0), vR (3, 0, 0), vI a1, vI a2, vI a3]) (st := []) C dX10_ring_50 (s_X3_follow G l e12) rfl rfl rfl t_4_80 t_4_81 t_4_82 t_1_9 t_4_83 m_X3_follow ⟨Nat.le_of_ble_eq_true rfl, Nat.le_of_ble_eq_true rfl⟩ ⟨rfl, rfl⟩ ⟨Nat.zero_le _, Nat.zero_le _⟩ rfl (Nat.le_of_ble_eq_true rfl) ?_
        refine r_bipush (v := (-4 : Int32)) C dX10_ring_53 rfl ?_
        refine r_icmp_eq C 61 dX10_ring_55 (by decide)  (fun h18 => ?_) (fun h18 => ?_)
        · have hF := if_t h18 hF
          refine r_iload C 4 dX10_ring_61 rfl ?_
          by_cases h13 : a4 = (0 : Int32)
          · have hF := if_t h13 hF
            refine r_look (off := 25) C 88 dX10_ring_63 (by decide) (by rw [h13]; rfl) (by decide) ?_
            refine r_aload_n C 0 0 dX10_ring_88 rfl rfl ?_
            refine r_getR (kf := 7) (d2 := (16, 0, 0)) C dX10_ring_89 rfl rfl f_X10 (by decide) t_2_103 rfl rfl ?_
            refine r_getI (kf := 2) C dX10_ring_92 rfl rfl f_X3 (by decide) t_2_12 rfl ?_
            exact r_ireturn C dX10_ring_95 (rt_e hF)
          have hF := if_f h13 hF
          by_cases h14 : a4 = (1 : Int32)
          · have hF := if_t h14 hF
            refine r_look (off := 33) C 96 dX10_ring_63 (by decide) ((lv_osw (a := 0) h13 rfl).trans (by rw [h14]; rfl)) (by decide) ?_
            refine r_aload_n C 0 0 dX10_ring_96 rfl rfl ?_
            refine r_getR (kf := 7) (d2 := (16, 0, 0)) C dX10_ring_97 rfl rfl f_X10 (by decide) t_2_103 rfl rfl ?_
            refine r_getI (kf := 3) C dX10_ring_100 rfl rfl f_X3 (by decide) t_2_14 rfl ?_
            exact r_ireturn C dX10_ring_103 (rt_e hF)
          have hF := if_f h14 hF
          refine r_look (off := 41) C 104 dX10_ring_63 (by decide) ((lv_osw (a := 0) h13 rfl).trans ((lv_osw (a := 1) h14 rfl).trans rfl)) (by decide) ?_
          refine r_aload_n C 0 0 dX10_ring_104 rfl rfl ?_
          refine r_getR (kf := 7) (d2 := (16, 0, 0)) C dX10_ring_105 rfl rfl f_X10 (by decide) t_2_103 rfl rfl ?_
          obtain ⟨r16, σ15, e17, hF⟩ := bd_e hF
          refine r_callV_i (as := []) (st := []) C dX10_ring_108 (s_X3_cellsRound G l e17) rfl rfl rfl t_4_90 t_4_91 t_4_92 t_1_9 t_4_93 m_X3_cellsRound ⟨Nat.le_of_ble_eq_true rfl, Nat.le_of_ble_eq_true rfl⟩ ⟨rfl, rfl⟩ ⟨Nat.zero_le _, Nat.zero_le _⟩ rfl (Nat.le_of_ble_eq_true rfl) ?_
          exact r_ireturn C dX10_ring_111 (rt_e hF)
        · have hF := if_f h18 hF
          refine r_bipush (v := (-4 : Int32)) C dX10_ring_58 rfl ?_
          exact r_ireturn C dX10_ring_60 (rt_e hF)
      · have hF := if_t h19 hF
        refine r_bipush (v := (-2 : Int32)) C dX10_ring_32 rfl ?_
        exact r_ireturn C dX10_ring_34 (rt_e hF)
    · have hF := if_t h20 hF
      refine r_iconst (v := (-1 : Int32)) C dX10_ring_19 rfl ?_
      exact r_ireturn C dX10_ring_20 (rt_e hF)
def L_X10_falls_141 (c6 : Int32) (c7 : Int32) : Nat → Int64 → Int32 → St → Option (Int64 × St)
  | 0, _, _, _ => none
  | n + 1, v8, v10, τ =>
  (if (60 : Int32) < v10 then some (v8, τ) else bd (F_X5_teethSend 0 v10 τ) fun r35 σ34 => nam (fun (y37 : Int64) (σ39 : St) => nam (v10 + (1 : Int32)) fun x40 => L_X10_falls_141 c6 c7 n y37 x40 σ39) fun k38 => (if r35 = 0 then (if c7 = 0 then k38 v8 σ34 else nam (v8 ||| ((1 : Int64) <<< (v10.toInt64 &&& 63))) fun x41 => k38 x41 σ34) else (if c6 = 0 then k38 v8 σ34 else nam (v8 ||| ((1 : Int64) <<< (v10.toInt64 &&& 63))) fun x43 => k38 x43 σ34)))
def F_X10_falls (a1 : Int32) (a2 : Int32) (a3 : Int32) (σ : St) : Option (Int64 × St) :=
  bd (F_X10_isCell a1 σ) fun r2 σ1 => (if r2 = 0 then some ((-1 : Int64), σ1) else bd (F_X10_isWay a2 σ1) fun r5 σ4 => (if r5 = 0 then some ((-1 : Int64), σ4) else bd (F_X10_isCell a3 σ4) fun r8 σ7 => (if r8 = 0 then some ((-1 : Int64), σ7) else bd (F_X6_isOpen 0 a1 σ7) fun r11 σ10 => (if r11 = 0 then some ((-2 : Int64), σ10) else bd (F_X6_kindAt 0 a3 σ10) fun r14 σ13 => (if r14 = (6 : Int32) then bd (F_X5_value 0 (2 : Int32) σ13) fun r17 σ16 => bd (F_X5_value 0 (3 : Int32) σ16) fun r20 σ19 => bd (F_X3_follow 0 0 a1 r17 a2 σ19) fun r23 σ22 => nam (fun (y25 : Int32) (σ27 : St) => bd (F_X3_follow 0 0 a1 (r20 + (1 : Int32)) a2 σ27) fun r29 σ28 => nam (fun (y31 : Int32) (σ33 : St) => L_X10_falls_141 y25 y31 FU (0 : Int64) (1 : Int32) σ33 ) fun k32 => (if r29 = a3 then k32 (1 : Int32) σ28 else k32 (0 : Int32) σ28)) fun k26 => (if r23 = a3 then k26 (1 : Int32) σ22 else k26 (0 : Int32) σ22) else some ((-2 : Int64), σ13))))))
set_option maxRecDepth 20000 in
set_option maxHeartbeats 4000000 in
theorem l_X10_falls_141 {G : Gx} {p : Program} {l : Launch} {e : Env} {s : State} {m : MethodId} {args : Array Value} {below : List Frame} {meth : Method} {c : Code} (C : Cx G p s m args meth c (some .long) 11 RX10 cX10_falls) (c6 : Int32) (c7 : Int32) {σ' : St} {r : Int64} : ∀ (n : Nat) (v8 : Int64) (v10 : Int32) (τ : St), L_X10_falls_141 c6 c7 n v8 v10 τ = some (r, σ') → Rt G p l e (lvl 3) s m args below meth c 0 0 (MQ below (va_Ql (fun a b => a = r ∧ b = σ') (Wd G) (AG G)) args s 0 0 (AG G)) 11 141 [(0, vR (0, 0, 0)), (6, vI c6), (7, vI c7), (8, vL v8), (10, vI v10)] [] τ := by
  intro n
  induction n with
  | zero => intro v8 v10 τ hF; cases hF
  | succ n ih =>
    intro v8 v10 τ hF
    unfold L_X10_falls_141 at hF
    refine r_iload C 4 dX10_falls_141 rfl ?_
    refine r_bipush (v := (60 : Int32)) C dX10_falls_143 rfl ?_
    refine r_icmp_gt C 188 dX10_falls_145 (by decide)  (fun h46 => ?_) (fun h46 => ?_)
    · have hF := if_t h46 hF
      refine r_lload C 3 dX10_falls_188 rfl ?_
      exact r_lreturn C dX10_falls_190 (rt_e hF)
    · have hF := if_f h46 hF
      refine r_aload_n C 0 0 dX10_falls_148 rfl rfl ?_
      refine r_getR (kf := 3) (d2 := (3, 0, 0)) C dX10_falls_149 rfl rfl f_X10 (by decide) t_2_99 rfl rfl ?_
      refine r_iload C 4 dX10_falls_152 rfl ?_
      obtain ⟨r35, σ34, e36, hF⟩ := bd_e hF
      refine r_callV_i (as := [vI v10]) (st := []) C dX10_falls_154 (s_X5_teethSend G l e36) rfl rfl rfl t_4_100 t_3_220 t_3_221 t_1_3 t_3_222 m_X5_teethSend ⟨Nat.le_of_ble_eq_true rfl, Nat.le_of_ble_eq_true rfl⟩ ⟨rfl, rfl⟩ ⟨Nat.zero_le _, Nat.zero_le _⟩ rfl (Nat.le_of_ble_eq_true rfl) ?_
      obtain ⟨k38, ek38, hF⟩ := nam_e hF
      have hk38 : ∀ (y37 : Int64) (σ39 : St), k38 y37 σ39 = some (r, σ') → Rt G p l e (lvl 3) s m args below meth c 0 0 (MQ below (va_Ql (fun a b => a = r ∧ b = σ') (Wd G) (AG G)) args s 0 0 (AG G)) 11 182 [(0, vR (0, 0, 0)), (6, vI c6), (7, vI c7), (8, vL y37), (10, vI v10)] [] σ39 := by
        intro y37 σ39 hF
        subst ek38
        obtain ⟨x40, ex40, hF⟩ := nam_e hF
        refine r_iinc (v := x40) (ls2 := [(10, vI x40), (0, vR (0, 0, 0)), (6, vI c6), (7, vI c7), (8, vL y37)]) C 4 dX10_falls_182 rfl ex40.symm (by decide) rfl ?_
        refine r_goto C 141 dX10_falls_185 (by decide) ?_
        refine r_drop (ls2 := [(0, vR (0, 0, 0)), (6, vI c6), (7, vI c7), (8, vL y37), (10, vI x40)]) [1, 2, 3, 4, 0] rfl ?_
        exact ih _ _ _ hF
      refine r_if_eq C 168 dX10_falls_157 (by decide)  (fun h45 => ?_) (fun h45 => ?_)
      · have hF := if_t h45 hF
        refine r_iload C 2 dX10_falls_168 rfl ?_
        refine r_if_eq C 182 dX10_falls_170 (by decide)  (fun h42 => ?_) (fun h42 => ?_)
        · have hF := if_t h42 hF
          exact hk38 _ _ hF
        · have hF := if_f h42 hF
          refine r_lload C 3 dX10_falls_173 rfl ?_
          refine r_lconst (v := (1 : Int64)) C dX10_falls_175 rfl ?_
          refine r_iload C 4 dX10_falls_176 rfl ?_
          refine r_lshl C dX10_falls_178 ?_
          refine r_lor C dX10_falls_179 ?_
          obtain ⟨x41, ex41, hF⟩ := nam_e hF
          refine r_topL ex41 ?_
          refine r_lstore (ls2 := [(8, vL x41), (0, vR (0, 0, 0)), (6, vI c6), (7, vI c7), (10, vI v10)]) C dX10_falls_180 (by decide) rfl ?_
          refine r_drop (ls2 := [(0, vR (0, 0, 0)), (6, vI c6), (7, vI c7), (8, vL x41), (10, vI v10)]) [1, 2, 3, 0, 4] rfl ?_
          exact hk38 _ _ hF
      · have hF := if_f h45 hF
        refine r_iload C 1 dX10_falls_160 rfl ?_
        refine r_if_eq C 182 dX10_falls_162 (by decide)  (fun h44 => ?_) (fun h44 => ?_)
        · have hF := if_t h44 hF
          exact hk38 _ _ hF
        · have hF := if_f h44 hF
          refine r_goto C 173 dX10_falls_165 (by decide) ?_
          refine r_lload C 3 dX10_falls_173 rfl ?_
          refine r_lconst (v := (1 : Int64)) C dX10_falls_175 rfl ?_
          refine r_iload C 4 dX10_falls_176 rfl ?_
          refine r_lshl C dX10_falls_178 ?_
          refine r_lor C dX10_falls_179 ?_
          obtain ⟨x43, ex43, hF⟩ := nam_e hF
          refine r_topL ex43 ?_
          refine r_lstore (ls2 := [(8, vL x43), (0, vR (0, 0, 0)), (6, vI c6), (7, vI c7), (10, vI v10)]) C dX10_falls_180 (by decide) rfl ?_
          refine r_drop (ls2 := [(0, vR (0, 0, 0)), (6, vI c6), (7, vI c7), (8, vL x43), (10, vI v10)]) [1, 2, 3, 0, 4] rfl ?_
          exact hk38 _ _ hF
set_option maxRecDepth 20000 in
set_option maxHeartbeats 4000000 in
theorem s_X10_falls (G : Gx) (l : Launch) {a1 : Int32} {a2 : Int32} {a3 : Int32} {σ σ' : St} {r : Int64} (hF : F_X10_falls a1 a2 a3 σ = some (r, σ')) : Sp G l yX10_falls cX10_falls 11 (some .long) (lvl 3) [vR (0, 0, 0), vI a1, vI a2, vI a3] σ (va_Ql (fun a b => a = r ∧ b = σ') (Wd G) (AG G)) := by
  refine Sp_of (own := RX10) (by decide) rfl (Nat.le_of_ble_eq_true rfl) ?_
  intro p e s m args below meth c C
  show Rt G p l e (lvl 3) s m args below meth c 0 0 (MQ below (va_Ql (fun a b => a = r ∧ b = σ') (Wd G) (AG G)) args s 0 0 (AG G)) 11 0 [(0, vR (0, 0, 0)), (1, vI a1), (2, vI a2), (3, vI a3)] [] σ
  unfold F_X10_falls at hF
  refine r_iload_n C 1 1 dX10_falls_0 rfl rfl ?_
  obtain ⟨r2, σ1, e3, hF⟩ := bd_e hF
  refine r_callS_i (as := [vI a1]) (st := []) C dX10_falls_1 (s_X10_isCell G l e3) t_3_118 t_3_119 t_1_1 t_3_120 m_X10_isCell ⟨Nat.le_of_ble_eq_true rfl, Nat.le_of_ble_eq_true rfl⟩ ⟨rfl, rfl⟩ ⟨Nat.zero_le _, Nat.zero_le _⟩ rfl (Nat.le_of_ble_eq_true rfl) ?_
  refine r_if_eq C 21 dX10_falls_4 (by decide)  (fun h53 => ?_) (fun h53 => ?_)
  · have hF := if_t h53 hF
    refine r_ldc2_w (v := (-1 : Int64)) C dX10_falls_21 t_4_98 ?_
    exact r_lreturn C dX10_falls_24 (rt_e hF)
  · have hF := if_f h53 hF
    refine r_iload_n C 2 2 dX10_falls_7 rfl rfl ?_
    obtain ⟨r5, σ4, e6, hF⟩ := bd_e hF
    refine r_callS_i (as := [vI a2]) (st := []) C dX10_falls_8 (s_X10_isWay G l e6) t_3_158 t_3_159 t_1_1 t_3_160 m_X10_isWay ⟨Nat.le_of_ble_eq_true rfl, Nat.le_of_ble_eq_true rfl⟩ ⟨rfl, rfl⟩ ⟨Nat.zero_le _, Nat.zero_le _⟩ rfl (Nat.le_of_ble_eq_true rfl) ?_
    refine r_if_eq C 21 dX10_falls_11 (by decide)  (fun h52 => ?_) (fun h52 => ?_)
    · have hF := if_t h52 hF
      refine r_ldc2_w (v := (-1 : Int64)) C dX10_falls_21 t_4_98 ?_
      exact r_lreturn C dX10_falls_24 (rt_e hF)
    · have hF := if_f h52 hF
      refine r_iload_n C 3 3 dX10_falls_14 rfl rfl ?_
      obtain ⟨r8, σ7, e9, hF⟩ := bd_e hF
      refine r_callS_i (as := [vI a3]) (st := []) C dX10_falls_15 (s_X10_isCell G l e9) t_3_118 t_3_119 t_1_1 t_3_120 m_X10_isCell ⟨Nat.le_of_ble_eq_true rfl, Nat.le_of_ble_eq_true rfl⟩ ⟨rfl, rfl⟩ ⟨Nat.zero_le _, Nat.zero_le _⟩ rfl (Nat.le_of_ble_eq_true rfl) ?_
      refine r_if_ne C 25 dX10_falls_18 (by decide)  (fun h51 => ?_) (fun h51 => ?_)
      · have hF := if_f h51 hF
        refine r_aload_n C 0 0 dX10_falls_25 rfl rfl ?_
        refine r_getR (kf := 4) (d2 := (7, 0, 0)) C dX10_falls_26 rfl rfl f_X10 (by decide) t_2_100 rfl rfl ?_
        refine r_iload_n C 1 1 dX10_falls_29 rfl rfl ?_
        obtain ⟨r11, σ10, e12, hF⟩ := bd_e hF
        refine r_callV_i (as := [vI a1]) (st := []) C dX10_falls_30 (s_X6_isOpen G l e12) rfl rfl rfl t_3_161 t_3_162 t_3_163 t_1_5 t_3_164 m_X6_isOpen ⟨Nat.le_of_ble_eq_true rfl, Nat.le_of_ble_eq_true rfl⟩ ⟨rfl, rfl⟩ ⟨Nat.zero_le _, Nat.zero_le _⟩ rfl (Nat.le_of_ble_eq_true rfl) ?_
        refine r_if_eq C 49 dX10_falls_33 (by decide)  (fun h50 => ?_) (fun h50 => ?_)
        · have hF := if_t h50 hF
          refine r_ldc2_w (v := (-2 : Int64)) C dX10_falls_49 t_4_99 ?_
          exact r_lreturn C dX10_falls_52 (rt_e hF)
        · have hF := if_f h50 hF
          refine r_aload_n C 0 0 dX10_falls_36 rfl rfl ?_
          refine r_getR (kf := 4) (d2 := (7, 0, 0)) C dX10_falls_37 rfl rfl f_X10 (by decide) t_2_100 rfl rfl ?_
          refine r_iload_n C 3 3 dX10_falls_40 rfl rfl ?_
          obtain ⟨r14, σ13, e15, hF⟩ := bd_e hF
          refine r_callV_i (as := [vI a3]) (st := []) C dX10_falls_41 (s_X6_kindAt G l e15) rfl rfl rfl t_3_121 t_3_122 t_3_123 t_1_5 t_3_124 m_X6_kindAt ⟨Nat.le_of_ble_eq_true rfl, Nat.le_of_ble_eq_true rfl⟩ ⟨rfl, rfl⟩ ⟨Nat.zero_le _, Nat.zero_le _⟩ rfl (Nat.le_of_ble_eq_true rfl) ?_
          refine r_bipush (v := (6 : Int32)) C dX10_falls_44 rfl ?_
          refine r_icmp_eq C 53 dX10_falls_46 (by decide)  (fun h49 => ?_) (fun h49 => ?_)
          · have hF := if_t h49 hF
            refine r_aload_n C 0 0 dX10_falls_53 rfl rfl ?_
            refine r_getR (kf := 3) (d2 := (3, 0, 0)) C dX10_falls_54 rfl rfl f_X10 (by decide) t_2_99 rfl rfl ?_
            refine r_iconst (v := (2 : Int32)) C dX10_falls_57 rfl ?_
            obtain ⟨r17, σ16, e18, hF⟩ := bd_e hF
            refine r_callV_i (as := [vI (2 : Int32)]) (st := []) C dX10_falls_58 (s_X5_value G l e18) rfl rfl rfl t_3_113 t_3_88 t_3_89 t_1_3 t_3_90 m_X5_value ⟨Nat.le_of_ble_eq_true rfl, Nat.le_of_ble_eq_true rfl⟩ ⟨rfl, rfl⟩ ⟨Nat.zero_le _, Nat.zero_le _⟩ rfl (Nat.le_of_ble_eq_true rfl) ?_
            refine r_istore (ls2 := [(4, vI r17), (0, vR (0, 0, 0)), (1, vI a1), (2, vI a2), (3, vI a3)]) C dX10_falls_61 (by decide) rfl ?_
            refine r_aload_n C 1 0 dX10_falls_63 rfl rfl ?_
            refine r_getR (kf := 3) (d2 := (3, 0, 0)) C dX10_falls_64 rfl rfl f_X10 (by decide) t_2_99 rfl rfl ?_
            refine r_iconst (v := (3 : Int32)) C dX10_falls_67 rfl ?_
            obtain ⟨r20, σ19, e21, hF⟩ := bd_e hF
            refine r_callV_i (as := [vI (3 : Int32)]) (st := []) C dX10_falls_68 (s_X5_value G l e21) rfl rfl rfl t_3_113 t_3_88 t_3_89 t_1_3 t_3_90 m_X5_value ⟨Nat.le_of_ble_eq_true rfl, Nat.le_of_ble_eq_true rfl⟩ ⟨rfl, rfl⟩ ⟨Nat.zero_le _, Nat.zero_le _⟩ rfl (Nat.le_of_ble_eq_true rfl) ?_
            refine r_istore (ls2 := [(5, vI r20), (4, vI r17), (0, vR (0, 0, 0)), (1, vI a1), (2, vI a2), (3, vI a3)]) C dX10_falls_71 (by decide) rfl ?_
            refine r_aload_n C 2 0 dX10_falls_73 rfl rfl ?_
            refine r_getR (kf := 7) (d2 := (16, 0, 0)) C dX10_falls_74 rfl rfl f_X10 (by decide) t_2_103 rfl rfl ?_
            refine r_aload_n C 2 0 dX10_falls_77 rfl rfl ?_
            refine r_getR (kf := 4) (d2 := (7, 0, 0)) C dX10_falls_78 rfl rfl f_X10 (by decide) t_2_100 rfl rfl ?_
            refine r_aload_n C 2 0 dX10_falls_81 rfl rfl ?_
            refine r_getR (kf := 3) (d2 := (3, 0, 0)) C dX10_falls_82 rfl rfl f_X10 (by decide) t_2_99 rfl rfl ?_
            refine r_iload_n C 3 1 dX10_falls_85 rfl rfl ?_
            refine r_iload C 1 dX10_falls_86 rfl ?_
            refine r_iload_n C 4 2 dX10_falls_88 rfl rfl ?_
            obtain ⟨r23, σ22, e24, hF⟩ := bd_e hF
            refine r_callV_i (as := [vR (7, 0, 0), vR (3, 0, 0), vI a1, vI r17, vI a2]) (st := []) C dX10_falls_89 (s_X3_follow G l e24) rfl rfl rfl t_4_80 t_4_81 t_4_82 t_1_9 t_4_83 m_X3_follow ⟨Nat.le_of_ble_eq_true rfl, Nat.le_of_ble_eq_true rfl⟩ ⟨rfl, rfl⟩ ⟨Nat.zero_le _, Nat.zero_le _⟩ rfl (Nat.le_of_ble_eq_true rfl) ?_
            refine r_iload_n C 5 3 dX10_falls_92 rfl rfl ?_
            obtain ⟨k26, ek26, hF⟩ := nam_e hF
            have hk26 : ∀ (y25 : Int32) (σ27 : St), k26 y25 σ27 = some (r, σ') → Rt G p l e (lvl 3) s m args below meth c 0 0 (MQ below (va_Ql (fun a b => a = r ∧ b = σ') (Wd G) (AG G)) args s 0 0 (AG G)) 11 101 [(0, vR (0, 0, 0)), (1, vI a1), (2, vI a2), (3, vI a3), (5, vI r20)] [vI y25] σ27 := by
              intro y25 σ27 hF
              subst ek26
              refine r_istore (ls2 := [(6, vI y25), (0, vR (0, 0, 0)), (1, vI a1), (2, vI a2), (3, vI a3), (5, vI r20)]) C dX10_falls_101 (by decide) rfl ?_
              refine r_aload_n C 1 0 dX10_falls_103 rfl rfl ?_
              refine r_getR (kf := 7) (d2 := (16, 0, 0)) C dX10_falls_104 rfl rfl f_X10 (by decide) t_2_103 rfl rfl ?_
              refine r_aload_n C 1 0 dX10_falls_107 rfl rfl ?_
              refine r_getR (kf := 4) (d2 := (7, 0, 0)) C dX10_falls_108 rfl rfl f_X10 (by decide) t_2_100 rfl rfl ?_
              refine r_aload_n C 1 0 dX10_falls_111 rfl rfl ?_
              refine r_getR (kf := 3) (d2 := (3, 0, 0)) C dX10_falls_112 rfl rfl f_X10 (by decide) t_2_99 rfl rfl ?_
              refine r_iload_n C 2 1 dX10_falls_115 rfl rfl ?_
              refine r_iload C 5 dX10_falls_116 rfl ?_
              refine r_iconst (v := (1 : Int32)) C dX10_falls_118 rfl ?_
              refine r_iadd C dX10_falls_119 ?_
              refine r_iload_n C 3 2 dX10_falls_120 rfl rfl ?_
              obtain ⟨r29, σ28, e30, hF⟩ := bd_e hF
              refine r_callV_i (as := [vR (7, 0, 0), vR (3, 0, 0), vI a1, vI (r20 + (1 : Int32)), vI a2]) (st := []) C dX10_falls_121 (s_X3_follow G l e30) rfl rfl rfl t_4_80 t_4_81 t_4_82 t_1_9 t_4_83 m_X3_follow ⟨Nat.le_of_ble_eq_true rfl, Nat.le_of_ble_eq_true rfl⟩ ⟨rfl, rfl⟩ ⟨Nat.zero_le _, Nat.zero_le _⟩ rfl (Nat.le_of_ble_eq_true rfl) ?_
              refine r_iload_n C 4 3 dX10_falls_124 rfl rfl ?_
              obtain ⟨k32, ek32, hF⟩ := nam_e hF
              have hk32 : ∀ (y31 : Int32) (σ33 : St), k32 y31 σ33 = some (r, σ') → Rt G p l e (lvl 3) s m args below meth c 0 0 (MQ below (va_Ql (fun a b => a = r ∧ b = σ') (Wd G) (AG G)) args s 0 0 (AG G)) 11 133 [(0, vR (0, 0, 0)), (6, vI y25)] [vI y31] σ33 := by
                intro y31 σ33 hF
                subst ek32
                refine r_istore (ls2 := [(7, vI y31), (0, vR (0, 0, 0)), (6, vI y25)]) C dX10_falls_133 (by decide) rfl ?_
                refine r_lconst (v := (0 : Int64)) C dX10_falls_135 rfl ?_
                refine r_lstore (ls2 := [(8, vL (0 : Int64)), (7, vI y31), (0, vR (0, 0, 0)), (6, vI y25)]) C dX10_falls_136 (by decide) rfl ?_
                refine r_iconst (v := (1 : Int32)) C dX10_falls_138 rfl ?_
                refine r_istore (ls2 := [(10, vI (1 : Int32)), (8, vL (0 : Int64)), (7, vI y31), (0, vR (0, 0, 0)), (6, vI y25)]) C dX10_falls_139 (by decide) rfl ?_
                refine r_drop (ls2 := [(0, vR (0, 0, 0)), (6, vI y25), (7, vI y31), (8, vL (0 : Int64)), (10, vI (1 : Int32))]) [3, 4, 2, 1, 0] rfl ?_
                refine l_X10_falls_141 C y25 y31  _ _ _ _ hF
              refine r_icmp_ne C 132 dX10_falls_125 (by decide)  (fun h47 => ?_) (fun h47 => ?_)
              · have hF := if_f h47 hF
                refine r_iconst (v := (0 : Int32)) C dX10_falls_132 rfl ?_
                refine r_drop (ls2 := [(0, vR (0, 0, 0)), (6, vI y25)]) [1, 0] rfl ?_
                exact hk32 _ _ hF
              · have hF := if_t h47 hF
                refine r_iconst (v := (1 : Int32)) C dX10_falls_128 rfl ?_
                refine r_goto C 133 dX10_falls_129 (by decide) ?_
                refine r_drop (ls2 := [(0, vR (0, 0, 0)), (6, vI y25)]) [1, 0] rfl ?_
                exact hk32 _ _ hF
            refine r_icmp_ne C 100 dX10_falls_93 (by decide)  (fun h48 => ?_) (fun h48 => ?_)
            · have hF := if_f h48 hF
              refine r_iconst (v := (0 : Int32)) C dX10_falls_100 rfl ?_
              refine r_drop (ls2 := [(0, vR (0, 0, 0)), (1, vI a1), (2, vI a2), (3, vI a3), (5, vI r20)]) [2, 3, 4, 5, 0] rfl ?_
              exact hk26 _ _ hF
            · have hF := if_t h48 hF
              refine r_iconst (v := (1 : Int32)) C dX10_falls_96 rfl ?_
              refine r_goto C 101 dX10_falls_97 (by decide) ?_
              refine r_drop (ls2 := [(0, vR (0, 0, 0)), (1, vI a1), (2, vI a2), (3, vI a3), (5, vI r20)]) [2, 3, 4, 5, 0] rfl ?_
              exact hk26 _ _ hF
          · have hF := if_f h49 hF
            refine r_ldc2_w (v := (-2 : Int64)) C dX10_falls_49 t_4_99 ?_
            exact r_lreturn C dX10_falls_52 (rt_e hF)
      · have hF := if_t h51 hF
        refine r_ldc2_w (v := (-1 : Int64)) C dX10_falls_21 t_4_98 ?_
        exact r_lreturn C dX10_falls_24 (rt_e hF)
def L_J7_fill_53178_t14_5 (c1 : Int32) (c3 : Int32) : Nat → Int32 → St → Option (Unit × St)
  | 0, _, _ => none
  | n + 1, v2, τ =>
  (if c3 ≤ v2 then some ((), τ) else ck (inb v2 96) (nam (uI τ (14, 0, 0) (v2.toNatClampNeg) c1) fun σ2 => nam (v2 + (1 : Int32)) fun x3 => L_J7_fill_53178_t14_5 c1 c3 n x3 σ2))
def F_J7_fill_53178_t14 (a1 : Int32) (σ : St) : Option (Unit × St) :=
  L_J7_fill_53178_t14_5 a1 (96 : Int32) FU (0 : Int32) σ 
set_option maxRecDepth 20000 in
set_option maxHeartbeats 4000000 in
theorem l_J7_fill_53178_t14_5 {G : Gx} {p : Program} {l : Launch} {e : Env} {s : State} {m : MethodId} {args : Array Value} {below : List Frame} {meth : Method} {c : Code} (C : Cx G p s m args meth c none 4 RJ7 cJ7_fill_53178) (c1 : Int32) (c3 : Int32) {σ' : St}  : ∀ (n : Nat) (v2 : Int32) (τ : St), L_J7_fill_53178_t14_5 c1 c3 n v2 τ = some ((), σ') → Rt G p l e (lvl 0) s m args below meth c 0 0 (MQ below (va_Qv (fun b => b = σ') (Wd G) (AG G)) args s 0 0 (AG G)) 4 5 [(0, vR (14, 0, 0)), (1, vI c1), (2, vI v2), (3, vI c3)] [] τ := by
  intro n
  induction n with
  | zero => intro v2 τ hF; cases hF
  | succ n ih =>
    intro v2 τ hF
    unfold L_J7_fill_53178_t14_5 at hF
    refine r_iload_n C 2 2 dJ7_fill_53178_5 rfl rfl ?_
    refine r_iload_n C 3 3 dJ7_fill_53178_6 rfl rfl ?_
    refine r_icmp_ge C 20 dJ7_fill_53178_7 (by decide)  (fun h4 => ?_) (fun h4 => ?_)
    · have hF := if_t h4 hF
      exact r_return C dJ7_fill_53178_20 (rv_e hF)
    · have hF := if_f h4 hF
      refine r_aload_n C 0 0 dJ7_fill_53178_10 rfl rfl ?_
      refine r_iload_n C 2 2 dJ7_fill_53178_11 rfl rfl ?_
      refine r_iload_n C 1 1 dJ7_fill_53178_12 rfl rfl ?_
      obtain ⟨h1, hF⟩ := ck_e hF
      obtain ⟨σ2, eσ2, hF⟩ := nam_e hF
      refine r_iastore C (v2.toNatClampNeg) dJ7_fill_53178_13 rfl h1 rfl eσ2 ?_
      obtain ⟨x3, ex3, hF⟩ := nam_e hF
      refine r_iinc (v := x3) (ls2 := [(2, vI x3), (0, vR (14, 0, 0)), (1, vI c1), (3, vI c3)]) C 2 dJ7_fill_53178_14 rfl ex3.symm (by decide) rfl ?_
      refine r_goto C 5 dJ7_fill_53178_17 (by decide) ?_
      refine r_drop (ls2 := [(0, vR (14, 0, 0)), (1, vI c1), (2, vI x3), (3, vI c3)]) [1, 2, 0, 3] rfl ?_
      exact ih _ _ hF
set_option maxRecDepth 20000 in
set_option maxHeartbeats 4000000 in
theorem s_J7_fill_53178_t14 (G : Gx) (l : Launch) {a1 : Int32} {σ σ' : St}  (hF : F_J7_fill_53178_t14 a1 σ = some ((), σ')) : Sp G l yJ7_fill_53178 cJ7_fill_53178 4 none (lvl 0) [vR (14, 0, 0), vI a1] σ (va_Qv (fun b => b = σ') (Wd G) (AG G)) := by
  refine Sp_of (own := RJ7) (by decide) rfl (Nat.le_of_ble_eq_true rfl) ?_
  intro p e s m args below meth c C
  show Rt G p l e (lvl 0) s m args below meth c 0 0 (MQ below (va_Qv (fun b => b = σ') (Wd G) (AG G)) args s 0 0 (AG G)) 4 0 [(0, vR (14, 0, 0)), (1, vI a1)] [] σ
  unfold F_J7_fill_53178_t14 at hF
  refine r_iconst (v := (0 : Int32)) C dJ7_fill_53178_0 rfl ?_
  refine r_istore_n (ls2 := [(2, vI (0 : Int32)), (0, vR (14, 0, 0)), (1, vI a1)]) C dJ7_fill_53178_1 2 rfl (by decide) rfl ?_
  refine r_aload_n C 1 0 dJ7_fill_53178_2 rfl rfl ?_
  refine r_alen (v := (96 : Int32)) C dJ7_fill_53178_3 rfl (by decide) rfl rfl ?_
  refine r_istore_n (ls2 := [(3, vI (96 : Int32)), (2, vI (0 : Int32)), (0, vR (14, 0, 0)), (1, vI a1)]) C dJ7_fill_53178_4 3 rfl (by decide) rfl ?_
  refine r_drop (ls2 := [(0, vR (14, 0, 0)), (1, vI a1), (2, vI (0 : Int32)), (3, vI (96 : Int32))]) [2, 3, 1, 0] rfl ?_
  refine l_J7_fill_53178_t14_5 C a1 (96 : Int32)  _ _ _ hF
def L_X2_findMend_110 (q1 : Nat) (c2 : Int32) (c4 : Int32) (c5 : Int32) (c6 : Int32) : Nat → Int32 → St → (St → Option (Int32 × St)) → Option (Int32 × St)
  | 0, _, _, _ => none
  | n + 1, v7, τ, kx205 =>
  (if c6 = 0 then kx205  τ else (if (4 : Int32) < v7 then kx205  τ else ck (inb c4 96) (nam (uI τ (8, 3, 0) (c4.toNatClampNeg) v7) fun σ21 => bd (F_X6_clearDrops 3 σ21) fun _ σ22 => bd (F_X6_addDrop 3 (σ22.1 (13, 0, 0) 3) (σ22.1 (13, 0, 0) 4) (σ22.1 (13, 0, 0) 5) σ22) fun r25 σ24 => bd (F_X2_ticksTill q1 c2 ((σ24.1 (13, 0, 0) 6) - (1 : Int32)) σ24) fun r28 σ27 => nam (fun  (σ31 : St) => nam (v7 + (1 : Int32)) fun x32 => L_X2_findMend_110 q1 c2 c4 c5 c6 n x32 σ31 kx205) fun k30 => (if r28 = (-4 : Int32) then k30  σ27 else nam (uI σ27 (13, 0, 0) 6 r28) fun σ33 => nam (uI σ33 (13, 0, 0) 7 c4) fun σ34 => nam (uI σ34 (13, 0, 0) 8 v7) fun σ35 => k30  σ35))))
def L_X2_findMend_65 (q1 : Nat) (c2 : Int32) : Nat → Int32 → St → (St → Option (Int32 × St)) → Option (Int32 × St)
  | 0, _, _, _ => none
  | n + 1, v4, τ, kx223 =>
  (if (96 : Int32) ≤ v4 then kx223  τ else ck (inb v4 96) (nam (τ.1 (8, 3, 0) (v4.toNatClampNeg)) fun x15 => ck (inb v4 96) (nam (fun (y17 : Int32) (σ19 : St) => L_X2_findMend_110 q1 c2 v4 x15 y17 FU (0 : Int32) σ19 (fun  (σ39 : St) => ck (inb v4 96) (nam (uI σ39 (8, 3, 0) (v4.toNatClampNeg) x15) fun σ41 => nam (v4 + (1 : Int32)) fun x42 => L_X2_findMend_65 q1 c2 n x42 σ41 kx223))) fun k18 => (if (τ.1 (15, 0, 0) (v4.toNatClampNeg)) = 0 then k18 (0 : Int32) τ else (if (4 : Int32) < x15 then k18 (0 : Int32) τ else k18 (1 : Int32) τ)))))
def F_X2_findMend (q1 : Nat) (a2 : Int32) (σ : St) : Option (Int32 × St) :=
  bd (F_J7_fill_53178_t14 (0 : Int32) σ) fun _ σ1 => bd (F_X2_ticksTill q1 a2 (400 : Int32) σ1) fun r4 σ3 => ck (cpk (0 : Int32) (0 : Int32) (96 : Int32) 96 96) (nam (uR σ3 (15, 0, 0) (va_cpy (σ3.1 (14, 0, 0)) (σ3.1 (15, 0, 0)) (0 : Int32).toNatClampNeg (0 : Int32).toNatClampNeg (96 : Int32).toNatClampNeg)) fun σ7 => nam (fun (y8 : Int32) (σ10 : St) => nam (uI σ10 (13, 0, 0) 6 y8) fun σ11 => nam (uI σ11 (13, 0, 0) 7 (-4 : Int32)) fun σ12 => nam (uI σ12 (13, 0, 0) 8 (-4 : Int32)) fun σ13 => L_X2_findMend_65 q1 a2 FU (0 : Int32) σ13 (fun  (σ46 : St) => (if (σ46.1 (13, 0, 0) 7) = (-4 : Int32) then some ((0 : Int32), σ46) else some ((1 : Int32), σ46)))) fun k9 => (if r4 = (-4 : Int32) then k9 (401 : Int32) σ7 else k9 r4 σ7))
set_option maxRecDepth 20000 in
set_option maxHeartbeats 4000000 in
theorem l_X2_findMend_110 {G : Gx} {p : Program} {l : Launch} {e : Env} {s : State} {m : MethodId} {args : Array Value} {below : List Frame} {meth : Method} {c : Code} (C : Cx G p s m args meth c (some .boolean) 9 RX2 cX2_findMend) (q1 : Nat) (c2 : Int32) (c4 : Int32) (c5 : Int32) (c6 : Int32) {σ' : St} {r : Int32} (kx205 : St → Option (Int32 × St)) (hkx205 : ∀  (τ : St), kx205  τ = some (r, σ') → Rt G p l e (lvl 5) s m args below meth c 0 0 (MQ below (va_Qi (fun a b => a = r ∧ b = σ') (Wd G) (AG G)) args s 0 0 (AG G)) 9 205 [(0, vR (13, 0, 0)), (1, vR (3, q1, 0)), (2, vI c2), (4, vI c4), (5, vI c5)] [] τ) : ∀ (n : Nat) (v7 : Int32) (τ : St), L_X2_findMend_110 q1 c2 c4 c5 c6 n v7 τ kx205 = some (r, σ') → Rt G p l e (lvl 5) s m args below meth c 0 0 (MQ below (va_Qi (fun a b => a = r ∧ b = σ') (Wd G) (AG G)) args s 0 0 (AG G)) 9 110 [(0, vR (13, 0, 0)), (1, vR (3, q1, 0)), (2, vI c2), (4, vI c4), (5, vI c5), (6, vI c6), (7, vI v7)] [] τ := by
  intro n
  induction n with
  | zero => intro v7 τ hF; cases hF
  | succ n ih =>
    intro v7 τ hF
    unfold L_X2_findMend_110 at hF
    refine r_iload C 5 dX2_findMend_110 rfl ?_
    refine r_if_eq C 205 dX2_findMend_112 (by decide)  (fun h38 => ?_) (fun h38 => ?_)
    · have hF := if_t h38 hF
      refine r_drop (ls2 := [(0, vR (13, 0, 0)), (1, vR (3, q1, 0)), (2, vI c2), (4, vI c4), (5, vI c5)]) [0, 1, 2, 3, 4] rfl ?_
      exact hkx205 _ hF
    · have hF := if_f h38 hF
      refine r_iload C 6 dX2_findMend_115 rfl ?_
      refine r_iconst (v := (4 : Int32)) C dX2_findMend_117 rfl ?_
      refine r_icmp_gt C 205 dX2_findMend_118 (by decide)  (fun h37 => ?_) (fun h37 => ?_)
      · have hF := if_t h37 hF
        refine r_drop (ls2 := [(0, vR (13, 0, 0)), (1, vR (3, q1, 0)), (2, vI c2), (4, vI c4), (5, vI c5)]) [0, 1, 2, 3, 4] rfl ?_
        exact hkx205 _ hF
      · have hF := if_f h37 hF
        refine r_aload_n C 0 0 dX2_findMend_121 rfl rfl ?_
        refine r_getR (kf := 0) (d2 := (7, 3, 0)) C dX2_findMend_122 rfl rfl f_X2 (by decide) t_1_210 rfl rfl ?_
        refine r_getR (kf := 0) (d2 := (8, 3, 0)) C dX2_findMend_125 rfl rfl f_X6 (by decide) t_1_154 rfl rfl ?_
        refine r_iload C 3 dX2_findMend_128 rfl ?_
        refine r_iload C 6 dX2_findMend_130 rfl ?_
        obtain ⟨h20, hF⟩ := ck_e hF
        obtain ⟨σ21, eσ21, hF⟩ := nam_e hF
        refine r_iastore C (c4.toNatClampNeg) dX2_findMend_132 rfl h20 rfl eσ21 ?_
        refine r_aload_n C 0 0 dX2_findMend_133 rfl rfl ?_
        refine r_getR (kf := 0) (d2 := (7, 3, 0)) C dX2_findMend_134 rfl rfl f_X2 (by decide) t_1_210 rfl rfl ?_
        obtain ⟨⟨⟩, σ22, e23, hF⟩ := bd_e hF
        refine r_callV_v (as := []) (st := []) C dX2_findMend_137 (s_X6_clearDrops G l e23) rfl rfl rfl t_4_112 t_3_102 t_3_103 t_1_5 t_3_104 m_X6_clearDrops ⟨Nat.le_of_ble_eq_true rfl, Nat.le_of_ble_eq_true rfl⟩ ⟨rfl, rfl⟩ ⟨Nat.zero_le _, Nat.zero_le _⟩ rfl (Nat.le_of_ble_eq_true rfl) ?_
        refine r_aload_n C 0 0 dX2_findMend_140 rfl rfl ?_
        refine r_getR (kf := 0) (d2 := (7, 3, 0)) C dX2_findMend_141 rfl rfl f_X2 (by decide) t_1_210 rfl rfl ?_
        refine r_aload_n C 0 0 dX2_findMend_144 rfl rfl ?_
        refine r_getI (kf := 3) C dX2_findMend_145 rfl rfl f_X2 (by decide) t_1_213 rfl ?_
        refine r_aload_n C 0 0 dX2_findMend_148 rfl rfl ?_
        refine r_getI (kf := 4) C dX2_findMend_149 rfl rfl f_X2 (by decide) t_1_214 rfl ?_
        refine r_aload_n C 0 0 dX2_findMend_152 rfl rfl ?_
        refine r_getI (kf := 5) C dX2_findMend_153 rfl rfl f_X2 (by decide) t_1_215 rfl ?_
        obtain ⟨r25, σ24, e26, hF⟩ := bd_e hF
        refine r_callV_i (as := [vI (σ22.1 (13, 0, 0) 3), vI (σ22.1 (13, 0, 0) 4), vI (σ22.1 (13, 0, 0) 5)]) (st := []) C dX2_findMend_156 (s_X6_addDrop G l e26) rfl rfl rfl t_4_113 t_3_167 t_3_168 t_1_5 t_3_169 m_X6_addDrop ⟨Nat.le_of_ble_eq_true rfl, Nat.le_of_ble_eq_true rfl⟩ ⟨rfl, rfl⟩ ⟨Nat.zero_le _, Nat.zero_le _⟩ rfl (Nat.le_of_ble_eq_true rfl) ?_
        refine r_pop_i C dX2_findMend_159 ?_
        refine r_aload_n C 0 0 dX2_findMend_160 rfl rfl ?_
        refine r_aload_n C 1 1 dX2_findMend_161 rfl rfl ?_
        refine r_iload_n C 2 2 dX2_findMend_162 rfl rfl ?_
        refine r_aload_n C 0 0 dX2_findMend_163 rfl rfl ?_
        refine r_getI (kf := 6) C dX2_findMend_164 rfl rfl f_X2 (by decide) t_1_216 rfl ?_
        refine r_iconst (v := (1 : Int32)) C dX2_findMend_167 rfl ?_
        refine r_isub C dX2_findMend_168 ?_
        obtain ⟨r28, σ27, e29, hF⟩ := bd_e hF
        refine r_callV_i (as := [vR (3, q1, 0), vI c2, vI ((σ24.1 (13, 0, 0) 6) - (1 : Int32))]) (st := []) C dX2_findMend_169 (s_X2_ticksTill G l e29) rfl rfl rfl t_4_110 t_4_72 t_4_73 t_1_8 t_4_74 m_X2_ticksTill ⟨Nat.le_of_ble_eq_true rfl, Nat.le_of_ble_eq_true rfl⟩ ⟨rfl, rfl⟩ ⟨Nat.zero_le _, Nat.zero_le _⟩ rfl (Nat.le_of_ble_eq_true rfl) ?_
        refine r_istore (ls2 := [(8, vI r28), (0, vR (13, 0, 0)), (1, vR (3, q1, 0)), (2, vI c2), (4, vI c4), (5, vI c5), (6, vI c6), (7, vI v7)]) C dX2_findMend_172 (by decide) rfl ?_
        refine r_iload C 0 dX2_findMend_174 rfl ?_
        refine r_bipush (v := (-4 : Int32)) C dX2_findMend_176 rfl ?_
        obtain ⟨k30, ek30, hF⟩ := nam_e hF
        have hk30 : ∀  (σ31 : St), k30  σ31 = some (r, σ') → Rt G p l e (lvl 5) s m args below meth c 0 0 (MQ below (va_Qi (fun a b => a = r ∧ b = σ') (Wd G) (AG G)) args s 0 0 (AG G)) 9 199 [(0, vR (13, 0, 0)), (1, vR (3, q1, 0)), (2, vI c2), (4, vI c4), (5, vI c5), (6, vI c6), (7, vI v7)] [] σ31 := by
          intro  σ31 hF
          subst ek30
          obtain ⟨x32, ex32, hF⟩ := nam_e hF
          refine r_iinc (v := x32) (ls2 := [(7, vI x32), (0, vR (13, 0, 0)), (1, vR (3, q1, 0)), (2, vI c2), (4, vI c4), (5, vI c5), (6, vI c6)]) C 6 dX2_findMend_199 rfl ex32.symm (by decide) rfl ?_
          refine r_goto C 110 dX2_findMend_202 (by decide) ?_
          refine r_drop (ls2 := [(0, vR (13, 0, 0)), (1, vR (3, q1, 0)), (2, vI c2), (4, vI c4), (5, vI c5), (6, vI c6), (7, vI x32)]) [1, 2, 3, 4, 5, 6, 0] rfl ?_
          exact ih _ _ hF
        refine r_icmp_eq C 199 dX2_findMend_178 (by decide)  (fun h36 => ?_) (fun h36 => ?_)
        · have hF := if_t h36 hF
          refine r_drop (ls2 := [(0, vR (13, 0, 0)), (1, vR (3, q1, 0)), (2, vI c2), (4, vI c4), (5, vI c5), (6, vI c6), (7, vI v7)]) [1, 2, 3, 4, 5, 6, 7] rfl ?_
          exact hk30 _ hF
        · have hF := if_f h36 hF
          refine r_aload_n C 1 0 dX2_findMend_181 rfl rfl ?_
          refine r_iload C 0 dX2_findMend_182 rfl ?_
          obtain ⟨σ33, eσ33, hF⟩ := nam_e hF
          refine r_put (kf := 6) (ty0 := tyX2) C dX2_findMend_184 rfl rfl f_X2 tyX2_ok nmX2 (by decide) t_1_216 rfl rfl rfl rfl eσ33 ?_
          refine r_aload_n C 1 0 dX2_findMend_187 rfl rfl ?_
          refine r_iload C 4 dX2_findMend_188 rfl ?_
          obtain ⟨σ34, eσ34, hF⟩ := nam_e hF
          refine r_put (kf := 7) (ty0 := tyX2) C dX2_findMend_190 rfl rfl f_X2 tyX2_ok nmX2 (by decide) t_1_218 rfl rfl rfl rfl eσ34 ?_
          refine r_aload_n C 1 0 dX2_findMend_193 rfl rfl ?_
          refine r_iload C 7 dX2_findMend_194 rfl ?_
          obtain ⟨σ35, eσ35, hF⟩ := nam_e hF
          refine r_put (kf := 8) (ty0 := tyX2) C dX2_findMend_196 rfl rfl f_X2 tyX2_ok nmX2 (by decide) t_1_220 rfl rfl rfl rfl eσ35 ?_
          refine r_drop (ls2 := [(0, vR (13, 0, 0)), (1, vR (3, q1, 0)), (2, vI c2), (4, vI c4), (5, vI c5), (6, vI c6), (7, vI v7)]) [1, 2, 3, 4, 5, 6, 7] rfl ?_
          exact hk30 _ hF
set_option maxRecDepth 20000 in
set_option maxHeartbeats 4000000 in
theorem l_X2_findMend_65 {G : Gx} {p : Program} {l : Launch} {e : Env} {s : State} {m : MethodId} {args : Array Value} {below : List Frame} {meth : Method} {c : Code} (C : Cx G p s m args meth c (some .boolean) 9 RX2 cX2_findMend) (q1 : Nat) (c2 : Int32) {σ' : St} {r : Int32} (kx223 : St → Option (Int32 × St)) (hkx223 : ∀  (τ : St), kx223  τ = some (r, σ') → Rt G p l e (lvl 5) s m args below meth c 0 0 (MQ below (va_Qi (fun a b => a = r ∧ b = σ') (Wd G) (AG G)) args s 0 0 (AG G)) 9 223 [(0, vR (13, 0, 0))] [] τ) : ∀ (n : Nat) (v4 : Int32) (τ : St), L_X2_findMend_65 q1 c2 n v4 τ kx223 = some (r, σ') → Rt G p l e (lvl 5) s m args below meth c 0 0 (MQ below (va_Qi (fun a b => a = r ∧ b = σ') (Wd G) (AG G)) args s 0 0 (AG G)) 9 65 [(0, vR (13, 0, 0)), (1, vR (3, q1, 0)), (2, vI c2), (4, vI v4)] [] τ := by
  intro n
  induction n with
  | zero => intro v4 τ hF; cases hF
  | succ n ih =>
    intro v4 τ hF
    unfold L_X2_findMend_65 at hF
    refine r_iload C 3 dX2_findMend_65 rfl ?_
    refine r_bipush (v := (96 : Int32)) C dX2_findMend_67 rfl ?_
    refine r_icmp_ge C 223 dX2_findMend_69 (by decide)  (fun h45 => ?_) (fun h45 => ?_)
    · have hF := if_t h45 hF
      refine r_drop (ls2 := [(0, vR (13, 0, 0))]) [0] rfl ?_
      exact hkx223 _ hF
    · have hF := if_f h45 hF
      refine r_aload_n C 0 0 dX2_findMend_72 rfl rfl ?_
      refine r_getR (kf := 0) (d2 := (7, 3, 0)) C dX2_findMend_73 rfl rfl f_X2 (by decide) t_1_210 rfl rfl ?_
      refine r_getR (kf := 0) (d2 := (8, 3, 0)) C dX2_findMend_76 rfl rfl f_X6 (by decide) t_1_154 rfl rfl ?_
      refine r_iload C 3 dX2_findMend_79 rfl ?_
      obtain ⟨h14, hF⟩ := ck_e hF
      refine r_iaload C (v4.toNatClampNeg) dX2_findMend_81 rfl h14 rfl ?_
      obtain ⟨x15, ex15, hF⟩ := nam_e hF
      refine r_topI ex15 ?_
      refine r_istore (ls2 := [(5, vI x15), (0, vR (13, 0, 0)), (1, vR (3, q1, 0)), (2, vI c2), (4, vI v4)]) C dX2_findMend_82 (by decide) rfl ?_
      refine r_aload_n C 1 0 dX2_findMend_84 rfl rfl ?_
      refine r_getR (kf := 2) (d2 := (15, 0, 0)) C dX2_findMend_85 rfl rfl f_X2 (by decide) t_1_212 rfl rfl ?_
      refine r_iload C 4 dX2_findMend_88 rfl ?_
      obtain ⟨h16, hF⟩ := ck_e hF
      refine r_iaload C (v4.toNatClampNeg) dX2_findMend_90 rfl h16 rfl ?_
      obtain ⟨k18, ek18, hF⟩ := nam_e hF
      have hk18 : ∀ (y17 : Int32) (σ19 : St), k18 y17 σ19 = some (r, σ') → Rt G p l e (lvl 5) s m args below meth c 0 0 (MQ below (va_Qi (fun a b => a = r ∧ b = σ') (Wd G) (AG G)) args s 0 0 (AG G)) 9 105 [(0, vR (13, 0, 0)), (1, vR (3, q1, 0)), (2, vI c2), (4, vI v4), (5, vI x15)] [vI y17] σ19 := by
        intro y17 σ19 hF
        subst ek18
        refine r_istore (ls2 := [(6, vI y17), (0, vR (13, 0, 0)), (1, vR (3, q1, 0)), (2, vI c2), (4, vI v4), (5, vI x15)]) C dX2_findMend_105 (by decide) rfl ?_
        refine r_iconst (v := (0 : Int32)) C dX2_findMend_107 rfl ?_
        refine r_istore (ls2 := [(7, vI (0 : Int32)), (6, vI y17), (0, vR (13, 0, 0)), (1, vR (3, q1, 0)), (2, vI c2), (4, vI v4), (5, vI x15)]) C dX2_findMend_108 (by decide) rfl ?_
        refine r_drop (ls2 := [(0, vR (13, 0, 0)), (1, vR (3, q1, 0)), (2, vI c2), (4, vI v4), (5, vI x15), (6, vI y17), (7, vI (0 : Int32))]) [2, 3, 4, 5, 6, 1, 0] rfl ?_
        refine l_X2_findMend_110 C q1 c2 v4 x15 y17 _ ?_ _ _ _ hF
        · intro  σ39 hF
          refine r_aload_n C 0 0 dX2_findMend_205 rfl rfl ?_
          refine r_getR (kf := 0) (d2 := (7, 3, 0)) C dX2_findMend_206 rfl rfl f_X2 (by decide) t_1_210 rfl rfl ?_
          refine r_getR (kf := 0) (d2 := (8, 3, 0)) C dX2_findMend_209 rfl rfl f_X6 (by decide) t_1_154 rfl rfl ?_
          refine r_iload C 3 dX2_findMend_212 rfl ?_
          refine r_iload C 4 dX2_findMend_214 rfl ?_
          obtain ⟨h40, hF⟩ := ck_e hF
          obtain ⟨σ41, eσ41, hF⟩ := nam_e hF
          refine r_iastore C (v4.toNatClampNeg) dX2_findMend_216 rfl h40 rfl eσ41 ?_
          obtain ⟨x42, ex42, hF⟩ := nam_e hF
          refine r_iinc (v := x42) (ls2 := [(4, vI x42), (0, vR (13, 0, 0)), (1, vR (3, q1, 0)), (2, vI c2), (5, vI x15)]) C 3 dX2_findMend_217 rfl ex42.symm (by decide) rfl ?_
          refine r_goto C 65 dX2_findMend_220 (by decide) ?_
          refine r_drop (ls2 := [(0, vR (13, 0, 0)), (1, vR (3, q1, 0)), (2, vI c2), (4, vI x42)]) [1, 2, 3, 0] rfl ?_
          exact ih _ _ hF
      refine r_if_eq C 104 dX2_findMend_91 (by decide)  (fun h44 => ?_) (fun h44 => ?_)
      · have hF := if_t h44 hF
        refine r_iconst (v := (0 : Int32)) C dX2_findMend_104 rfl ?_
        refine r_drop (ls2 := [(0, vR (13, 0, 0)), (1, vR (3, q1, 0)), (2, vI c2), (4, vI v4), (5, vI x15)]) [1, 2, 3, 4, 0] rfl ?_
        exact hk18 _ _ hF
      · have hF := if_f h44 hF
        refine r_iload C 0 dX2_findMend_94 rfl ?_
        refine r_iconst (v := (4 : Int32)) C dX2_findMend_96 rfl ?_
        refine r_icmp_gt C 104 dX2_findMend_97 (by decide)  (fun h43 => ?_) (fun h43 => ?_)
        · have hF := if_t h43 hF
          refine r_iconst (v := (0 : Int32)) C dX2_findMend_104 rfl ?_
          refine r_drop (ls2 := [(0, vR (13, 0, 0)), (1, vR (3, q1, 0)), (2, vI c2), (4, vI v4), (5, vI x15)]) [1, 2, 3, 4, 0] rfl ?_
          exact hk18 _ _ hF
        · have hF := if_f h43 hF
          refine r_iconst (v := (1 : Int32)) C dX2_findMend_100 rfl ?_
          refine r_goto C 105 dX2_findMend_101 (by decide) ?_
          refine r_drop (ls2 := [(0, vR (13, 0, 0)), (1, vR (3, q1, 0)), (2, vI c2), (4, vI v4), (5, vI x15)]) [1, 2, 3, 4, 0] rfl ?_
          exact hk18 _ _ hF
set_option maxRecDepth 20000 in
set_option maxHeartbeats 4000000 in
theorem s_X2_findMend (G : Gx) (l : Launch) {q1 : Nat} {a2 : Int32} {σ σ' : St} {r : Int32} (hF : F_X2_findMend q1 a2 σ = some (r, σ')) : Sp G l yX2_findMend cX2_findMend 9 (some .boolean) (lvl 5) [vR (13, 0, 0), vR (3, q1, 0), vI a2] σ (va_Qi (fun a b => a = r ∧ b = σ') (Wd G) (AG G)) := by
  refine Sp_of (own := RX2) (by decide) rfl (Nat.le_of_ble_eq_true rfl) ?_
  intro p e s m args below meth c C
  show Rt G p l e (lvl 5) s m args below meth c 0 0 (MQ below (va_Qi (fun a b => a = r ∧ b = σ') (Wd G) (AG G)) args s 0 0 (AG G)) 9 0 [(0, vR (13, 0, 0)), (1, vR (3, q1, 0)), (2, vI a2)] [] σ
  unfold F_X2_findMend at hF
  refine r_aload_n C 0 0 dX2_findMend_0 rfl rfl ?_
  refine r_getR (kf := 1) (d2 := (14, 0, 0)) C dX2_findMend_1 rfl rfl f_X2 (by decide) t_1_211 rfl rfl ?_
  refine r_iconst (v := (0 : Int32)) C dX2_findMend_4 rfl ?_
  obtain ⟨⟨⟩, σ1, e2, hF⟩ := bd_e hF
  refine r_callS_v (as := [vR (14, 0, 0), vI (0 : Int32)]) (st := []) C dX2_findMend_5 (s_J7_fill_53178_t14 G l e2) t_4_109 t_1_111 t_1_6 t_1_112 m_J7_fill_53178 ⟨Nat.le_of_ble_eq_true rfl, Nat.le_of_ble_eq_true rfl⟩ ⟨rfl, rfl⟩ ⟨Nat.zero_le _, Nat.zero_le _⟩ rfl (Nat.le_of_ble_eq_true rfl) ?_
  refine r_aload_n C 0 0 dX2_findMend_8 rfl rfl ?_
  refine r_aload_n C 1 1 dX2_findMend_9 rfl rfl ?_
  refine r_iload_n C 2 2 dX2_findMend_10 rfl rfl ?_
  refine r_sipush (v := (400 : Int32)) C dX2_findMend_11 rfl ?_
  obtain ⟨r4, σ3, e5, hF⟩ := bd_e hF
  refine r_callV_i (as := [vR (3, q1, 0), vI a2, vI (400 : Int32)]) (st := []) C dX2_findMend_14 (s_X2_ticksTill G l e5) rfl rfl rfl t_4_110 t_4_72 t_4_73 t_1_8 t_4_74 m_X2_ticksTill ⟨Nat.le_of_ble_eq_true rfl, Nat.le_of_ble_eq_true rfl⟩ ⟨rfl, rfl⟩ ⟨Nat.zero_le _, Nat.zero_le _⟩ rfl (Nat.le_of_ble_eq_true rfl) ?_
  refine r_istore_n (ls2 := [(3, vI r4), (0, vR (13, 0, 0)), (1, vR (3, q1, 0)), (2, vI a2)]) C dX2_findMend_17 3 rfl (by decide) rfl ?_
  refine r_aload_n C 1 0 dX2_findMend_18 rfl rfl ?_
  refine r_getR (kf := 1) (d2 := (14, 0, 0)) C dX2_findMend_19 rfl rfl f_X2 (by decide) t_1_211 rfl rfl ?_
  refine r_iconst (v := (0 : Int32)) C dX2_findMend_22 rfl ?_
  refine r_aload_n C 1 0 dX2_findMend_23 rfl rfl ?_
  refine r_getR (kf := 2) (d2 := (15, 0, 0)) C dX2_findMend_24 rfl rfl f_X2 (by decide) t_1_212 rfl rfl ?_
  refine r_iconst (v := (0 : Int32)) C dX2_findMend_27 rfl ?_
  refine r_bipush (v := (96 : Int32)) C dX2_findMend_28 rfl ?_
  obtain ⟨h6, hF⟩ := ck_e hF
  obtain ⟨σ7, eσ7, hF⟩ := nam_e hF
  refine r_copyI C dX2_findMend_30 rfl rfl t_4_111 t_1_49 t_1_48 t_1_4 ⟨Nat.le_of_ble_eq_true rfl, Nat.le_of_ble_eq_true rfl⟩ h6 eσ7 ?_
  refine r_aload_n C 1 0 dX2_findMend_33 rfl rfl ?_
  refine r_iload_n C 0 3 dX2_findMend_34 rfl rfl ?_
  refine r_bipush (v := (-4 : Int32)) C dX2_findMend_35 rfl ?_
  obtain ⟨k9, ek9, hF⟩ := nam_e hF
  have hk9 : ∀ (y8 : Int32) (σ10 : St), k9 y8 σ10 = some (r, σ') → Rt G p l e (lvl 5) s m args below meth c 0 0 (MQ below (va_Qi (fun a b => a = r ∧ b = σ') (Wd G) (AG G)) args s 0 0 (AG G)) 9 47 [(0, vR (13, 0, 0)), (1, vR (3, q1, 0)), (2, vI a2)] [vI y8, vR (13, 0, 0)] σ10 := by
    intro y8 σ10 hF
    subst ek9
    obtain ⟨σ11, eσ11, hF⟩ := nam_e hF
    refine r_put (kf := 6) (ty0 := tyX2) C dX2_findMend_47 rfl rfl f_X2 tyX2_ok nmX2 (by decide) t_1_216 rfl rfl rfl rfl eσ11 ?_
    refine r_aload_n C 0 0 dX2_findMend_50 rfl rfl ?_
    refine r_bipush (v := (-4 : Int32)) C dX2_findMend_51 rfl ?_
    obtain ⟨σ12, eσ12, hF⟩ := nam_e hF
    refine r_put (kf := 7) (ty0 := tyX2) C dX2_findMend_53 rfl rfl f_X2 tyX2_ok nmX2 (by decide) t_1_218 rfl rfl rfl rfl eσ12 ?_
    refine r_aload_n C 0 0 dX2_findMend_56 rfl rfl ?_
    refine r_bipush (v := (-4 : Int32)) C dX2_findMend_57 rfl ?_
    obtain ⟨σ13, eσ13, hF⟩ := nam_e hF
    refine r_put (kf := 8) (ty0 := tyX2) C dX2_findMend_59 rfl rfl f_X2 tyX2_ok nmX2 (by decide) t_1_220 rfl rfl rfl rfl eσ13 ?_
    refine r_iconst (v := (0 : Int32)) C dX2_findMend_62 rfl ?_
    refine r_istore (ls2 := [(4, vI (0 : Int32)), (0, vR (13, 0, 0)), (1, vR (3, q1, 0)), (2, vI a2)]) C dX2_findMend_63 (by decide) rfl ?_
    refine r_drop (ls2 := [(0, vR (13, 0, 0)), (1, vR (3, q1, 0)), (2, vI a2), (4, vI (0 : Int32))]) [1, 2, 3, 0] rfl ?_
    refine l_X2_findMend_65 C q1 a2 _ ?_ _ _ _ hF
    · intro  σ46 hF
      refine r_aload_n C 0 0 dX2_findMend_223 rfl rfl ?_
      refine r_getI (kf := 7) C dX2_findMend_224 rfl rfl f_X2 (by decide) t_1_218 rfl ?_
      refine r_bipush (v := (-4 : Int32)) C dX2_findMend_227 rfl ?_
      refine r_icmp_eq C 236 dX2_findMend_229 (by decide)  (fun h47 => ?_) (fun h47 => ?_)
      · have hF := if_t h47 hF
        refine r_iconst (v := (0 : Int32)) C dX2_findMend_236 rfl ?_
        exact r_zreturn C dX2_findMend_237 (nar_z (Or.inl rfl)) (rt_e hF)
      · have hF := if_f h47 hF
        refine r_iconst (v := (1 : Int32)) C dX2_findMend_232 rfl ?_
        refine r_goto C 237 dX2_findMend_233 (by decide) ?_
        exact r_zreturn C dX2_findMend_237 (nar_z (Or.inr rfl)) (rt_e hF)
  refine r_icmp_ne C 46 dX2_findMend_37 (by decide)  (fun h48 => ?_) (fun h48 => ?_)
  · have hF := if_f h48 hF
    refine r_iload_n C 0 3 dX2_findMend_46 rfl rfl ?_
    refine r_drop (ls2 := [(0, vR (13, 0, 0)), (1, vR (3, q1, 0)), (2, vI a2)]) [1, 2, 3] rfl ?_
    exact hk9 _ _ hF
  · have hF := if_t h48 hF
    refine r_sipush (v := (401 : Int32)) C dX2_findMend_40 rfl ?_
    refine r_goto C 47 dX2_findMend_43 (by decide) ?_
    refine r_drop (ls2 := [(0, vR (13, 0, 0)), (1, vR (3, q1, 0)), (2, vI a2)]) [1, 2, 3] rfl ?_
    exact hk9 _ _ hF
def F_X10_mend (a1 : Int32) (a2 : Int32) (a3 : Int32) (a4 : Int32) (a5 : Int32) (σ : St) : Option (Int32 × St) :=
  bd (F_X10_isDropToBe a1 a2 a3 σ) fun r2 σ1 => (if r2 = 0 then some ((-1 : Int32), σ1) else bd (F_X10_isCell a4 σ1) fun r5 σ4 => (if r5 = 0 then some ((-1 : Int32), σ4) else bd (F_X10_within a5 (0 : Int32) (2 : Int32) σ4) fun r8 σ7 => (if r8 = 0 then some ((-1 : Int32), σ7) else bd (F_X6_isOpen 0 a1 σ7) fun r11 σ10 => (if r11 = 0 then some ((-2 : Int32), σ10) else bd (F_X2_begin 0 a1 a2 a3 σ10) fun _ σ13 => bd (F_X2_findMend 0 a4 σ13) fun r16 σ15 => (if r16 = 0 then some ((-4 : Int32), σ15) else (if a5 = (0 : Int32) then some (σ15.1 (13, 0, 0) 6, σ15) else (if a5 = (1 : Int32) then some (σ15.1 (13, 0, 0) 7, σ15) else some (σ15.1 (13, 0, 0) 8, σ15))))))))
set_option maxRecDepth 20000 in
set_option maxHeartbeats 4000000 in
theorem s_X10_mend (G : Gx) (l : Launch) {a1 : Int32} {a2 : Int32} {a3 : Int32} {a4 : Int32} {a5 : Int32} {σ σ' : St} {r : Int32} (hF : F_X10_mend a1 a2 a3 a4 a5 σ = some (r, σ')) : Sp G l yX10_mend cX10_mend 6 (some .int) (lvl 6) [vR (0, 0, 0), vI a1, vI a2, vI a3, vI a4, vI a5] σ (va_Qi (fun a b => a = r ∧ b = σ') (Wd G) (AG G)) := by
  refine Sp_of (own := RX10) (by decide) rfl (Nat.le_of_ble_eq_true rfl) ?_
  intro p e s m args below meth c C
  show Rt G p l e (lvl 6) s m args below meth c 0 0 (MQ below (va_Qi (fun a b => a = r ∧ b = σ') (Wd G) (AG G)) args s 0 0 (AG G)) 6 0 [(0, vR (0, 0, 0)), (1, vI a1), (2, vI a2), (3, vI a3), (4, vI a4), (5, vI a5)] [] σ
  unfold F_X10_mend at hF
  refine r_iload_n C 1 1 dX10_mend_0 rfl rfl ?_
  refine r_iload_n C 2 2 dX10_mend_1 rfl rfl ?_
  refine r_iload_n C 3 3 dX10_mend_2 rfl rfl ?_
  obtain ⟨r2, σ1, e3, hF⟩ := bd_e hF
  refine r_callS_i (as := [vI a1, vI a2, vI a3]) (st := []) C dX10_mend_3 (s_X10_isDropToBe G l e3) t_3_152 t_3_153 t_1_1 t_3_154 m_X10_isDropToBe ⟨Nat.le_of_ble_eq_true rfl, Nat.le_of_ble_eq_true rfl⟩ ⟨rfl, rfl⟩ ⟨Nat.zero_le _, Nat.zero_le _⟩ rfl (Nat.le_of_ble_eq_true rfl) ?_
  refine r_if_eq C 27 dX10_mend_6 (by decide)  (fun h24 => ?_) (fun h24 => ?_)
  · have hF := if_t h24 hF
    refine r_iconst (v := (-1 : Int32)) C dX10_mend_27 rfl ?_
    exact r_ireturn C dX10_mend_28 (rt_e hF)
  · have hF := if_f h24 hF
    refine r_iload C 4 dX10_mend_9 rfl ?_
    obtain ⟨r5, σ4, e6, hF⟩ := bd_e hF
    refine r_callS_i (as := [vI a4]) (st := []) C dX10_mend_11 (s_X10_isCell G l e6) t_3_118 t_3_119 t_1_1 t_3_120 m_X10_isCell ⟨Nat.le_of_ble_eq_true rfl, Nat.le_of_ble_eq_true rfl⟩ ⟨rfl, rfl⟩ ⟨Nat.zero_le _, Nat.zero_le _⟩ rfl (Nat.le_of_ble_eq_true rfl) ?_
    refine r_if_eq C 27 dX10_mend_14 (by decide)  (fun h23 => ?_) (fun h23 => ?_)
    · have hF := if_t h23 hF
      refine r_iconst (v := (-1 : Int32)) C dX10_mend_27 rfl ?_
      exact r_ireturn C dX10_mend_28 (rt_e hF)
    · have hF := if_f h23 hF
      refine r_iload C 5 dX10_mend_17 rfl ?_
      refine r_iconst (v := (0 : Int32)) C dX10_mend_19 rfl ?_
      refine r_iconst (v := (2 : Int32)) C dX10_mend_20 rfl ?_
      obtain ⟨r8, σ7, e9, hF⟩ := bd_e hF
      refine r_callS_i (as := [vI a5, vI (0 : Int32), vI (2 : Int32)]) (st := []) C dX10_mend_21 (s_X10_within G l e9) t_2_141 t_2_142 t_1_1 t_2_143 m_X10_within ⟨Nat.le_of_ble_eq_true rfl, Nat.le_of_ble_eq_true rfl⟩ ⟨rfl, rfl⟩ ⟨Nat.zero_le _, Nat.zero_le _⟩ rfl (Nat.le_of_ble_eq_true rfl) ?_
      refine r_if_ne C 29 dX10_mend_24 (by decide)  (fun h22 => ?_) (fun h22 => ?_)
      · have hF := if_f h22 hF
        refine r_aload_n C 0 0 dX10_mend_29 rfl rfl ?_
        refine r_getR (kf := 4) (d2 := (7, 0, 0)) C dX10_mend_30 rfl rfl f_X10 (by decide) t_2_100 rfl rfl ?_
        refine r_iload_n C 1 1 dX10_mend_33 rfl rfl ?_
        obtain ⟨r11, σ10, e12, hF⟩ := bd_e hF
        refine r_callV_i (as := [vI a1]) (st := []) C dX10_mend_34 (s_X6_isOpen G l e12) rfl rfl rfl t_3_161 t_3_162 t_3_163 t_1_5 t_3_164 m_X6_isOpen ⟨Nat.le_of_ble_eq_true rfl, Nat.le_of_ble_eq_true rfl⟩ ⟨rfl, rfl⟩ ⟨Nat.zero_le _, Nat.zero_le _⟩ rfl (Nat.le_of_ble_eq_true rfl) ?_
        refine r_if_ne C 43 dX10_mend_37 (by decide)  (fun h21 => ?_) (fun h21 => ?_)
        · have hF := if_f h21 hF
          refine r_aload_n C 0 0 dX10_mend_43 rfl rfl ?_
          refine r_getR (kf := 6) (d2 := (13, 0, 0)) C dX10_mend_44 rfl rfl f_X10 (by decide) t_2_102 rfl rfl ?_
          refine r_aload_n C 0 0 dX10_mend_47 rfl rfl ?_
          refine r_getR (kf := 4) (d2 := (7, 0, 0)) C dX10_mend_48 rfl rfl f_X10 (by decide) t_2_100 rfl rfl ?_
          refine r_iload_n C 1 1 dX10_mend_51 rfl rfl ?_
          refine r_iload_n C 2 2 dX10_mend_52 rfl rfl ?_
          refine r_iload_n C 3 3 dX10_mend_53 rfl rfl ?_
          obtain ⟨⟨⟩, σ13, e14, hF⟩ := bd_e hF
          refine r_callV_v (as := [vR (7, 0, 0), vI a1, vI a2, vI a3]) (st := []) C dX10_mend_54 (s_X2_begin G l e14) rfl rfl rfl t_4_53 t_4_54 t_4_55 t_1_8 t_4_56 m_X2_begin ⟨Nat.le_of_ble_eq_true rfl, Nat.le_of_ble_eq_true rfl⟩ ⟨rfl, rfl⟩ ⟨Nat.zero_le _, Nat.zero_le _⟩ rfl (Nat.le_of_ble_eq_true rfl) ?_
          refine r_aload_n C 0 0 dX10_mend_57 rfl rfl ?_
          refine r_getR (kf := 6) (d2 := (13, 0, 0)) C dX10_mend_58 rfl rfl f_X10 (by decide) t_2_102 rfl rfl ?_
          refine r_aload_n C 0 0 dX10_mend_61 rfl rfl ?_
          refine r_getR (kf := 3) (d2 := (3, 0, 0)) C dX10_mend_62 rfl rfl f_X10 (by decide) t_2_99 rfl rfl ?_
          refine r_iload C 4 dX10_mend_65 rfl ?_
          obtain ⟨r16, σ15, e17, hF⟩ := bd_e hF
          refine r_callV_i (as := [vR (3, 0, 0), vI a4]) (st := []) C dX10_mend_67 (s_X2_findMend G l e17) rfl rfl rfl t_4_105 t_4_106 t_4_107 t_1_8 t_4_108 m_X2_findMend ⟨Nat.le_of_ble_eq_true rfl, Nat.le_of_ble_eq_true rfl⟩ ⟨rfl, rfl⟩ ⟨Nat.zero_le _, Nat.zero_le _⟩ rfl (Nat.le_of_ble_eq_true rfl) ?_
          refine r_if_ne C 76 dX10_mend_70 (by decide)  (fun h20 => ?_) (fun h20 => ?_)
          · have hF := if_f h20 hF
            refine r_iload C 5 dX10_mend_76 rfl ?_
            by_cases h18 : a5 = (0 : Int32)
            · have hF := if_t h18 hF
              refine r_look (off := 26) C 104 dX10_mend_78 (by decide) (by rw [h18]; rfl) (by decide) ?_
              refine r_aload_n C 0 0 dX10_mend_104 rfl rfl ?_
              refine r_getR (kf := 6) (d2 := (13, 0, 0)) C dX10_mend_105 rfl rfl f_X10 (by decide) t_2_102 rfl rfl ?_
              refine r_getI (kf := 6) C dX10_mend_108 rfl rfl f_X2 (by decide) t_1_217 rfl ?_
              exact r_ireturn C dX10_mend_111 (rt_e hF)
            have hF := if_f h18 hF
            by_cases h19 : a5 = (1 : Int32)
            · have hF := if_t h19 hF
              refine r_look (off := 34) C 112 dX10_mend_78 (by decide) ((lv_osw (a := 0) h18 rfl).trans (by rw [h19]; rfl)) (by decide) ?_
              refine r_aload_n C 0 0 dX10_mend_112 rfl rfl ?_
              refine r_getR (kf := 6) (d2 := (13, 0, 0)) C dX10_mend_113 rfl rfl f_X10 (by decide) t_2_102 rfl rfl ?_
              refine r_getI (kf := 7) C dX10_mend_116 rfl rfl f_X2 (by decide) t_1_219 rfl ?_
              exact r_ireturn C dX10_mend_119 (rt_e hF)
            have hF := if_f h19 hF
            refine r_look (off := 42) C 120 dX10_mend_78 (by decide) ((lv_osw (a := 0) h18 rfl).trans ((lv_osw (a := 1) h19 rfl).trans rfl)) (by decide) ?_
            refine r_aload_n C 0 0 dX10_mend_120 rfl rfl ?_
            refine r_getR (kf := 6) (d2 := (13, 0, 0)) C dX10_mend_121 rfl rfl f_X10 (by decide) t_2_102 rfl rfl ?_
            refine r_getI (kf := 8) C dX10_mend_124 rfl rfl f_X2 (by decide) t_1_221 rfl ?_
            exact r_ireturn C dX10_mend_127 (rt_e hF)
          · have hF := if_t h20 hF
            refine r_bipush (v := (-4 : Int32)) C dX10_mend_73 rfl ?_
            exact r_ireturn C dX10_mend_75 (rt_e hF)
        · have hF := if_t h21 hF
          refine r_bipush (v := (-2 : Int32)) C dX10_mend_40 rfl ?_
          exact r_ireturn C dX10_mend_42 (rt_e hF)
      · have hF := if_t h22 hF
        refine r_iconst (v := (-1 : Int32)) C dX10_mend_27 rfl ?_
        exact r_ireturn C dX10_mend_28 (rt_e hF)
def F_X5_lifeTouching (q0 : Nat) (a1 : Int32) (a2 : Int32) (σ : St) : Option (Int32 × St) :=
  bd (F_X5_lossTouching q0 a2 σ) fun r2 σ1 => (if r2 ≤ 0 then some ((0 : Int32), σ1) else ck (decide (¬ r2 = 0)) (some (((a1 + r2) - (1 : Int32)) / r2, σ1)))
set_option maxRecDepth 20000 in
set_option maxHeartbeats 4000000 in
theorem s_X5_lifeTouching (G : Gx) (l : Launch) {q0 : Nat} {a1 : Int32} {a2 : Int32} {σ σ' : St} {r : Int32} (hF : F_X5_lifeTouching q0 a1 a2 σ = some (r, σ')) : Sp G l yX5_lifeTouching cX5_lifeTouching 4 (some .int) (lvl 1) [vR (3, q0, 0), vI a1, vI a2] σ (va_Qi (fun a b => a = r ∧ b = σ') (Wd G) (AG G)) := by
  refine Sp_of (own := RX5) (by decide) rfl (Nat.le_of_ble_eq_true rfl) ?_
  intro p e s m args below meth c C
  show Rt G p l e (lvl 1) s m args below meth c 0 0 (MQ below (va_Qi (fun a b => a = r ∧ b = σ') (Wd G) (AG G)) args s 0 0 (AG G)) 4 0 [(0, vR (3, q0, 0)), (1, vI a1), (2, vI a2)] [] σ
  unfold F_X5_lifeTouching at hF
  refine r_aload_n C 0 0 dX5_lifeTouching_0 rfl rfl ?_
  refine r_iload_n C 2 2 dX5_lifeTouching_1 rfl rfl ?_
  obtain ⟨r2, σ1, e3, hF⟩ := bd_e hF
  refine r_callV_i (as := [vI a2]) (st := []) C dX5_lifeTouching_2 (s_X5_lossTouching G l e3) rfl rfl rfl t_4_136 t_3_187 t_3_188 t_1_3 t_3_189 m_X5_lossTouching ⟨Nat.le_of_ble_eq_true rfl, Nat.le_of_ble_eq_true rfl⟩ ⟨rfl, rfl⟩ ⟨Nat.zero_le _, Nat.zero_le _⟩ rfl (Nat.le_of_ble_eq_true rfl) ?_
  refine r_istore_n (ls2 := [(3, vI r2), (0, vR (3, q0, 0)), (1, vI a1), (2, vI a2)]) C dX5_lifeTouching_5 3 rfl (by decide) rfl ?_
  refine r_iload_n C 0 3 dX5_lifeTouching_6 rfl rfl ?_
  refine r_if_le C 20 dX5_lifeTouching_7 (by decide)  (fun h5 => ?_) (fun h5 => ?_)
  · have hF := if_t h5 hF
    refine r_iconst (v := (0 : Int32)) C dX5_lifeTouching_20 rfl ?_
    exact r_ireturn C dX5_lifeTouching_21 (rt_e hF)
  · have hF := if_f h5 hF
    refine r_iload_n C 2 1 dX5_lifeTouching_10 rfl rfl ?_
    refine r_iload_n C 0 3 dX5_lifeTouching_11 rfl rfl ?_
    refine r_iadd C dX5_lifeTouching_12 ?_
    refine r_iconst (v := (1 : Int32)) C dX5_lifeTouching_13 rfl ?_
    refine r_isub C dX5_lifeTouching_14 ?_
    refine r_iload_n C 0 3 dX5_lifeTouching_15 rfl rfl ?_
    obtain ⟨h4, hF⟩ := ck_e hF
    refine r_idiv C dX5_lifeTouching_16 (nz h4) ?_
    refine r_goto C 21 dX5_lifeTouching_17 (by decide) ?_
    exact r_ireturn C dX5_lifeTouching_21 (rt_e hF)
def L_X5_lifeFloating_4 (q0 : Nat) : Nat → Int32 → Int32 → St → (Int32 → St → Option (Int32 × St)) → Option (Int32 × St)
  | 0, _, _, _, _ => none
  | n + 1, v2, v3, τ, kx31 =>
  bd (F_X5_lossFloating q0 v2 τ) fun r2 σ1 => nam (v2 - r2) fun x4 => nam (v3 + (1 : Int32)) fun x5 => ck (inb (4 : Int32) 9) ((if x4 ≤ (σ1.1 (4, q0, 0) 4) then kx31 x5 σ1 else (if x5 < (60 : Int32) then L_X5_lifeFloating_4 q0 n x4 x5 σ1 kx31 else kx31 x5 σ1)))
def F_X5_lifeFloating (q0 : Nat) (a1 : Int32) (σ : St) : Option (Int32 × St) :=
  L_X5_lifeFloating_4 q0 FU a1 (0 : Int32) σ (fun (y10 : Int32) (σ9 : St) => ck (inb (7 : Int32) 9) (some (((y10 - (1 : Int32)) * (σ9.1 (4, q0, 0) 7)) + (1 : Int32), σ9)))
set_option maxRecDepth 20000 in
set_option maxHeartbeats 4000000 in
theorem l_X5_lifeFloating_4 {G : Gx} {p : Program} {l : Launch} {e : Env} {s : State} {m : MethodId} {args : Array Value} {below : List Frame} {meth : Method} {c : Code} (C : Cx G p s m args meth c (some .int) 4 RX5 cX5_lifeFloating) (q0 : Nat) {σ' : St} {r : Int32} (kx31 : Int32 → St → Option (Int32 × St)) (hkx31 : ∀ (w3 : Int32) (τ : St), kx31 w3 τ = some (r, σ') → Rt G p l e (lvl 2) s m args below meth c 0 0 (MQ below (va_Qi (fun a b => a = r ∧ b = σ') (Wd G) (AG G)) args s 0 0 (AG G)) 4 31 [(0, vR (3, q0, 0)), (3, vI w3)] [] τ) : ∀ (n : Nat) (v2 : Int32) (v3 : Int32) (τ : St), L_X5_lifeFloating_4 q0 n v2 v3 τ kx31 = some (r, σ') → Rt G p l e (lvl 2) s m args below meth c 0 0 (MQ below (va_Qi (fun a b => a = r ∧ b = σ') (Wd G) (AG G)) args s 0 0 (AG G)) 4 4 [(0, vR (3, q0, 0)), (2, vI v2), (3, vI v3)] [] τ := by
  intro n
  induction n with
  | zero => intro v2 v3 τ hF; cases hF
  | succ n ih =>
    intro v2 v3 τ hF
    unfold L_X5_lifeFloating_4 at hF
    refine r_iload_n C 1 2 dX5_lifeFloating_4 rfl rfl ?_
    refine r_aload_n C 0 0 dX5_lifeFloating_5 rfl rfl ?_
    refine r_iload_n C 1 2 dX5_lifeFloating_6 rfl rfl ?_
    obtain ⟨r2, σ1, e3, hF⟩ := bd_e hF
    refine r_callV_i (as := [vI v2]) (st := [vI v2]) C dX5_lifeFloating_7 (s_X5_lossFloating G l e3) rfl rfl rfl t_4_131 t_3_207 t_3_208 t_1_3 t_3_209 m_X5_lossFloating ⟨Nat.le_of_ble_eq_true rfl, Nat.le_of_ble_eq_true rfl⟩ ⟨rfl, rfl⟩ ⟨Nat.zero_le _, Nat.zero_le _⟩ rfl (Nat.le_of_ble_eq_true rfl) ?_
    refine r_isub C dX5_lifeFloating_10 ?_
    obtain ⟨x4, ex4, hF⟩ := nam_e hF
    refine r_topI ex4 ?_
    refine r_istore_n (ls2 := [(2, vI x4), (0, vR (3, q0, 0)), (3, vI v3)]) C dX5_lifeFloating_11 2 rfl (by decide) rfl ?_
    obtain ⟨x5, ex5, hF⟩ := nam_e hF
    refine r_iinc (v := x5) (ls2 := [(3, vI x5), (2, vI x4), (0, vR (3, q0, 0))]) C 2 dX5_lifeFloating_12 rfl ex5.symm (by decide) rfl ?_
    refine r_iload_n C 1 2 dX5_lifeFloating_15 rfl rfl ?_
    refine r_aload_n C 2 0 dX5_lifeFloating_16 rfl rfl ?_
    refine r_getR (kf := 0) (d2 := (4, q0, 0)) C dX5_lifeFloating_17 rfl rfl f_X5 (by decide) t_1_50 rfl rfl ?_
    refine r_iconst (v := (4 : Int32)) C dX5_lifeFloating_20 rfl ?_
    obtain ⟨h6, hF⟩ := ck_e hF
    refine r_iaload C 4 dX5_lifeFloating_21 rfl h6 rfl ?_
    refine r_icmp_le C 31 dX5_lifeFloating_22 (by decide)  (fun h8 => ?_) (fun h8 => ?_)
    · have hF := if_t h8 hF
      refine r_drop (ls2 := [(0, vR (3, q0, 0)), (3, vI x5)]) [2, 0] rfl ?_
      exact hkx31 _ _ hF
    · have hF := if_f h8 hF
      refine r_iload_n C 0 3 dX5_lifeFloating_25 rfl rfl ?_
      refine r_bipush (v := (60 : Int32)) C dX5_lifeFloating_26 rfl ?_
      refine r_icmp_lt C 4 dX5_lifeFloating_28 (by decide)  (fun h7 => ?_) (fun h7 => ?_)
      · have hF := if_t h7 hF
        refine r_drop (ls2 := [(0, vR (3, q0, 0)), (2, vI x4), (3, vI x5)]) [2, 1, 0] rfl ?_
        exact ih _ _ _ hF
      · have hF := if_f h7 hF
        refine r_drop (ls2 := [(0, vR (3, q0, 0)), (3, vI x5)]) [2, 0] rfl ?_
        exact hkx31 _ _ hF
set_option maxRecDepth 20000 in
set_option maxHeartbeats 4000000 in
theorem s_X5_lifeFloating (G : Gx) (l : Launch) {q0 : Nat} {a1 : Int32} {σ σ' : St} {r : Int32} (hF : F_X5_lifeFloating q0 a1 σ = some (r, σ')) : Sp G l yX5_lifeFloating cX5_lifeFloating 4 (some .int) (lvl 2) [vR (3, q0, 0), vI a1] σ (va_Qi (fun a b => a = r ∧ b = σ') (Wd G) (AG G)) := by
  refine Sp_of (own := RX5) (by decide) rfl (Nat.le_of_ble_eq_true rfl) ?_
  intro p e s m args below meth c C
  show Rt G p l e (lvl 2) s m args below meth c 0 0 (MQ below (va_Qi (fun a b => a = r ∧ b = σ') (Wd G) (AG G)) args s 0 0 (AG G)) 4 0 [(0, vR (3, q0, 0)), (1, vI a1)] [] σ
  unfold F_X5_lifeFloating at hF
  refine r_iload_n C 1 1 dX5_lifeFloating_0 rfl rfl ?_
  refine r_istore_n (ls2 := [(2, vI a1), (0, vR (3, q0, 0)), (1, vI a1)]) C dX5_lifeFloating_1 2 rfl (by decide) rfl ?_
  refine r_iconst (v := (0 : Int32)) C dX5_lifeFloating_2 rfl ?_
  refine r_istore_n (ls2 := [(3, vI (0 : Int32)), (2, vI a1), (0, vR (3, q0, 0)), (1, vI a1)]) C dX5_lifeFloating_3 3 rfl (by decide) rfl ?_
  refine r_drop (ls2 := [(0, vR (3, q0, 0)), (2, vI a1), (3, vI (0 : Int32))]) [2, 1, 0] rfl ?_
  refine l_X5_lifeFloating_4 C q0 _ ?_ _ _ _ _ hF
  · intro y10 σ9 hF
    refine r_iload_n C 1 3 dX5_lifeFloating_31 rfl rfl ?_
    refine r_iconst (v := (1 : Int32)) C dX5_lifeFloating_32 rfl ?_
    refine r_isub C dX5_lifeFloating_33 ?_
    refine r_aload_n C 0 0 dX5_lifeFloating_34 rfl rfl ?_
    refine r_getR (kf := 0) (d2 := (4, q0, 0)) C dX5_lifeFloating_35 rfl rfl f_X5 (by decide) t_1_50 rfl rfl ?_
    refine r_bipush (v := (7 : Int32)) C dX5_lifeFloating_38 rfl ?_
    obtain ⟨h11, hF⟩ := ck_e hF
    refine r_iaload C 7 dX5_lifeFloating_40 rfl h11 rfl ?_
    refine r_imul C dX5_lifeFloating_41 ?_
    refine r_iconst (v := (1 : Int32)) C dX5_lifeFloating_42 rfl ?_
    refine r_iadd C dX5_lifeFloating_43 ?_
    exact r_ireturn C dX5_lifeFloating_44 (rt_e hF)
def F_X5_lifeBy (q0 : Nat) (a1 : Int32) (a2 : Int32) (a3 : Int32) (σ : St) : Option (Int32 × St) :=
  (if a3 = 0 then bd (F_X5_lifeTouching q0 a1 a2 σ) fun r2 σ1 => some (r2, σ1) else bd (F_X5_lifeFloating q0 a1 σ) fun r5 σ4 => some (r5, σ4))
set_option maxRecDepth 20000 in
set_option maxHeartbeats 4000000 in
theorem s_X5_lifeBy (G : Gx) (l : Launch) {q0 : Nat} {a1 : Int32} {a2 : Int32} {a3 : Int32} {σ σ' : St} {r : Int32} (hF : F_X5_lifeBy q0 a1 a2 a3 σ = some (r, σ')) : Sp G l yX5_lifeBy cX5_lifeBy 4 (some .int) (lvl 3) [vR (3, q0, 0), vI a1, vI a2, vI a3] σ (va_Qi (fun a b => a = r ∧ b = σ') (Wd G) (AG G)) := by
  refine Sp_of (own := RX5) (by decide) rfl (Nat.le_of_ble_eq_true rfl) ?_
  intro p e s m args below meth c C
  show Rt G p l e (lvl 3) s m args below meth c 0 0 (MQ below (va_Qi (fun a b => a = r ∧ b = σ') (Wd G) (AG G)) args s 0 0 (AG G)) 4 0 [(0, vR (3, q0, 0)), (1, vI a1), (2, vI a2), (3, vI a3)] [] σ
  unfold F_X5_lifeBy at hF
  refine r_iload_n C 3 3 dX5_lifeBy_0 rfl rfl ?_
  refine r_if_eq C 12 dX5_lifeBy_1 (by decide)  (fun h7 => ?_) (fun h7 => ?_)
  · have hF := if_t h7 hF
    refine r_aload_n C 0 0 dX5_lifeBy_12 rfl rfl ?_
    refine r_iload_n C 1 1 dX5_lifeBy_13 rfl rfl ?_
    refine r_iload_n C 2 2 dX5_lifeBy_14 rfl rfl ?_
    obtain ⟨r2, σ1, e3, hF⟩ := bd_e hF
    refine r_callV_i (as := [vI a1, vI a2]) (st := []) C dX5_lifeBy_15 (s_X5_lifeTouching G l e3) rfl rfl rfl t_4_132 t_4_134 t_s_17 t_1_3 t_4_135 m_X5_lifeTouching ⟨Nat.le_of_ble_eq_true rfl, Nat.le_of_ble_eq_true rfl⟩ ⟨rfl, rfl⟩ ⟨Nat.zero_le _, Nat.zero_le _⟩ rfl (Nat.le_of_ble_eq_true rfl) ?_
    exact r_ireturn C dX5_lifeBy_18 (rt_e hF)
  · have hF := if_f h7 hF
    refine r_aload_n C 0 0 dX5_lifeBy_4 rfl rfl ?_
    refine r_iload_n C 1 1 dX5_lifeBy_5 rfl rfl ?_
    obtain ⟨r5, σ4, e6, hF⟩ := bd_e hF
    refine r_callV_i (as := [vI a1]) (st := []) C dX5_lifeBy_6 (s_X5_lifeFloating G l e6) rfl rfl rfl t_4_127 t_4_129 t_s_16 t_1_3 t_4_130 m_X5_lifeFloating ⟨Nat.le_of_ble_eq_true rfl, Nat.le_of_ble_eq_true rfl⟩ ⟨rfl, rfl⟩ ⟨Nat.zero_le _, Nat.zero_le _⟩ rfl (Nat.le_of_ble_eq_true rfl) ?_
    refine r_goto C 18 dX5_lifeBy_9 (by decide) ?_
    exact r_ireturn C dX5_lifeBy_18 (rt_e hF)
def F_X5_lifeOf (q0 : Nat) (a1 : Int32) (a2 : Int32) (a3 : Int32) (σ : St) : Option (Int32 × St) :=
  bd (F_X5_floatsAt q0 a2 a3 σ) fun r2 σ1 => bd (F_X5_lifeBy q0 a1 a2 r2 σ1) fun r5 σ4 => some (r5, σ4)
set_option maxRecDepth 20000 in
set_option maxHeartbeats 4000000 in
theorem s_X5_lifeOf (G : Gx) (l : Launch) {q0 : Nat} {a1 : Int32} {a2 : Int32} {a3 : Int32} {σ σ' : St} {r : Int32} (hF : F_X5_lifeOf q0 a1 a2 a3 σ = some (r, σ')) : Sp G l yX5_lifeOf cX5_lifeOf 4 (some .int) (lvl 4) [vR (3, q0, 0), vI a1, vI a2, vI a3] σ (va_Qi (fun a b => a = r ∧ b = σ') (Wd G) (AG G)) := by
  refine Sp_of (own := RX5) (by decide) rfl (Nat.le_of_ble_eq_true rfl) ?_
  intro p e s m args below meth c C
  show Rt G p l e (lvl 4) s m args below meth c 0 0 (MQ below (va_Qi (fun a b => a = r ∧ b = σ') (Wd G) (AG G)) args s 0 0 (AG G)) 4 0 [(0, vR (3, q0, 0)), (1, vI a1), (2, vI a2), (3, vI a3)] [] σ
  unfold F_X5_lifeOf at hF
  refine r_aload_n C 0 0 dX5_lifeOf_0 rfl rfl ?_
  refine r_iload_n C 1 1 dX5_lifeOf_1 rfl rfl ?_
  refine r_iload_n C 2 2 dX5_lifeOf_2 rfl rfl ?_
  refine r_aload_n C 0 0 dX5_lifeOf_3 rfl rfl ?_
  refine r_iload_n C 2 2 dX5_lifeOf_4 rfl rfl ?_
  refine r_iload_n C 3 3 dX5_lifeOf_5 rfl rfl ?_
  obtain ⟨r2, σ1, e3, hF⟩ := bd_e hF
  refine r_callV_i (as := [vI a2, vI a3]) (st := [vI a2, vI a1, vR (3, q0, 0)]) C dX5_lifeOf_6 (s_X5_floatsAt G l e3) rfl rfl rfl t_4_122 t_3_141 t_3_142 t_1_3 t_3_143 m_X5_floatsAt ⟨Nat.le_of_ble_eq_true rfl, Nat.le_of_ble_eq_true rfl⟩ ⟨rfl, rfl⟩ ⟨Nat.zero_le _, Nat.zero_le _⟩ rfl (Nat.le_of_ble_eq_true rfl) ?_
  obtain ⟨r5, σ4, e6, hF⟩ := bd_e hF
  refine r_callV_i (as := [vI a1, vI a2, vI r2]) (st := []) C dX5_lifeOf_9 (s_X5_lifeBy G l e6) rfl rfl rfl t_4_123 t_4_124 t_4_125 t_1_3 t_4_126 m_X5_lifeBy ⟨Nat.le_of_ble_eq_true rfl, Nat.le_of_ble_eq_true rfl⟩ ⟨rfl, rfl⟩ ⟨Nat.zero_le _, Nat.zero_le _⟩ rfl (Nat.le_of_ble_eq_true rfl) ?_
  exact r_ireturn C dX5_lifeOf_12 (rt_e hF)
def F_X10_life (a1 : Int32) (a2 : Int32) (a3 : Int32) (σ : St) : Option (Int32 × St) :=
  bd (F_X10_isSize a1 σ) fun r2 σ1 => (if r2 = 0 then some ((-1 : Int32), σ1) else bd (F_X10_isHeat a2 σ1) fun r5 σ4 => (if r5 = 0 then some ((-1 : Int32), σ4) else bd (F_X5_lifeOf 0 a1 a2 a3 σ4) fun r8 σ7 => some (r8, σ7)))
set_option maxRecDepth 20000 in
set_option maxHeartbeats 4000000 in
theorem s_X10_life (G : Gx) (l : Launch) {a1 : Int32} {a2 : Int32} {a3 : Int32} {σ σ' : St} {r : Int32} (hF : F_X10_life a1 a2 a3 σ = some (r, σ')) : Sp G l yX10_life cX10_life 4 (some .int) (lvl 5) [vR (0, 0, 0), vI a1, vI a2, vI a3] σ (va_Qi (fun a b => a = r ∧ b = σ') (Wd G) (AG G)) := by
  refine Sp_of (own := RX10) (by decide) rfl (Nat.le_of_ble_eq_true rfl) ?_
  intro p e s m args below meth c C
  show Rt G p l e (lvl 5) s m args below meth c 0 0 (MQ below (va_Qi (fun a b => a = r ∧ b = σ') (Wd G) (AG G)) args s 0 0 (AG G)) 4 0 [(0, vR (0, 0, 0)), (1, vI a1), (2, vI a2), (3, vI a3)] [] σ
  unfold F_X10_life at hF
  refine r_iload_n C 1 1 dX10_life_0 rfl rfl ?_
  obtain ⟨r2, σ1, e3, hF⟩ := bd_e hF
  refine r_callS_i (as := [vI a1]) (st := []) C dX10_life_1 (s_X10_isSize G l e3) t_3_155 t_3_156 t_1_1 t_3_157 m_X10_isSize ⟨Nat.le_of_ble_eq_true rfl, Nat.le_of_ble_eq_true rfl⟩ ⟨rfl, rfl⟩ ⟨Nat.zero_le _, Nat.zero_le _⟩ rfl (Nat.le_of_ble_eq_true rfl) ?_
  refine r_if_eq C 27 dX10_life_4 (by decide)  (fun h11 => ?_) (fun h11 => ?_)
  · have hF := if_t h11 hF
    refine r_iconst (v := (-1 : Int32)) C dX10_life_27 rfl ?_
    exact r_ireturn C dX10_life_28 (rt_e hF)
  · have hF := if_f h11 hF
    refine r_iload_n C 2 2 dX10_life_7 rfl rfl ?_
    obtain ⟨r5, σ4, e6, hF⟩ := bd_e hF
    refine r_callS_i (as := [vI a2]) (st := []) C dX10_life_8 (s_X10_isHeat G l e6) t_3_137 t_3_138 t_1_1 t_3_139 m_X10_isHeat ⟨Nat.le_of_ble_eq_true rfl, Nat.le_of_ble_eq_true rfl⟩ ⟨rfl, rfl⟩ ⟨Nat.zero_le _, Nat.zero_le _⟩ rfl (Nat.le_of_ble_eq_true rfl) ?_
    refine r_if_eq C 27 dX10_life_11 (by decide)  (fun h10 => ?_) (fun h10 => ?_)
    · have hF := if_t h10 hF
      refine r_iconst (v := (-1 : Int32)) C dX10_life_27 rfl ?_
      exact r_ireturn C dX10_life_28 (rt_e hF)
    · have hF := if_f h10 hF
      refine r_aload_n C 0 0 dX10_life_14 rfl rfl ?_
      refine r_getR (kf := 3) (d2 := (3, 0, 0)) C dX10_life_15 rfl rfl f_X10 (by decide) t_2_99 rfl rfl ?_
      refine r_iload_n C 1 1 dX10_life_18 rfl rfl ?_
      refine r_iload_n C 2 2 dX10_life_19 rfl rfl ?_
      refine r_iload_n C 3 3 dX10_life_20 rfl rfl ?_
      obtain ⟨r8, σ7, e9, hF⟩ := bd_e hF
      refine r_callV_i (as := [vI a1, vI a2, vI a3]) (st := []) C dX10_life_21 (s_X5_lifeOf G l e9) rfl rfl rfl t_4_118 t_4_119 t_4_120 t_1_3 t_4_121 m_X5_lifeOf ⟨Nat.le_of_ble_eq_true rfl, Nat.le_of_ble_eq_true rfl⟩ ⟨rfl, rfl⟩ ⟨Nat.zero_le _, Nat.zero_le _⟩ rfl (Nat.le_of_ble_eq_true rfl) ?_
      refine r_goto C 28 dX10_life_24 (by decide) ?_
      exact r_ireturn C dX10_life_28 (rt_e hF)
def L_X5_longestHeat_5 (q0 : Nat) (c1 : Int32) (c2 : Int32) : Nat → Int32 → Int32 → St → Option (Int32 × St)
  | 0, _, _, _ => none
  | n + 1, v3, v4, τ =>
  (if (99 : Int32) < v4 then some (v3, τ) else bd (F_X5_lifeOf q0 c1 v4 c2 τ) fun r2 σ1 => bd (F_X5_lifeOf q0 c1 v3 c2 σ1) fun r5 σ4 => nam (fun (y7 : Int32) (σ9 : St) => nam (v4 + (1 : Int32)) fun x10 => L_X5_longestHeat_5 q0 c1 c2 n y7 x10 σ9) fun k8 => (if r2 ≤ r5 then k8 v3 σ4 else k8 v4 σ4))
def F_X5_longestHeat (q0 : Nat) (a1 : Int32) (a2 : Int32) (σ : St) : Option (Int32 × St) :=
  L_X5_longestHeat_5 q0 a1 a2 FU (0 : Int32) (1 : Int32) σ 
set_option maxRecDepth 20000 in
set_option maxHeartbeats 4000000 in
theorem l_X5_longestHeat_5 {G : Gx} {p : Program} {l : Launch} {e : Env} {s : State} {m : MethodId} {args : Array Value} {below : List Frame} {meth : Method} {c : Code} (C : Cx G p s m args meth c (some .int) 5 RX5 cX5_longestHeat) (q0 : Nat) (c1 : Int32) (c2 : Int32) {σ' : St} {r : Int32} : ∀ (n : Nat) (v3 : Int32) (v4 : Int32) (τ : St), L_X5_longestHeat_5 q0 c1 c2 n v3 v4 τ = some (r, σ') → Rt G p l e (lvl 5) s m args below meth c 0 0 (MQ below (va_Qi (fun a b => a = r ∧ b = σ') (Wd G) (AG G)) args s 0 0 (AG G)) 5 5 [(0, vR (3, q0, 0)), (1, vI c1), (2, vI c2), (3, vI v3), (4, vI v4)] [] τ := by
  intro n
  induction n with
  | zero => intro v3 v4 τ hF; cases hF
  | succ n ih =>
    intro v3 v4 τ hF
    unfold L_X5_longestHeat_5 at hF
    refine r_iload C 4 dX5_longestHeat_5 rfl ?_
    refine r_bipush (v := (99 : Int32)) C dX5_longestHeat_7 rfl ?_
    refine r_icmp_gt C 39 dX5_longestHeat_9 (by decide)  (fun h12 => ?_) (fun h12 => ?_)
    · have hF := if_t h12 hF
      refine r_iload_n C 3 3 dX5_longestHeat_39 rfl rfl ?_
      exact r_ireturn C dX5_longestHeat_40 (rt_e hF)
    · have hF := if_f h12 hF
      refine r_aload_n C 0 0 dX5_longestHeat_12 rfl rfl ?_
      refine r_iload_n C 1 1 dX5_longestHeat_13 rfl rfl ?_
      refine r_iload C 4 dX5_longestHeat_14 rfl ?_
      refine r_iload_n C 2 2 dX5_longestHeat_16 rfl rfl ?_
      obtain ⟨r2, σ1, e3, hF⟩ := bd_e hF
      refine r_callV_i (as := [vI c1, vI v4, vI c2]) (st := []) C dX5_longestHeat_17 (s_X5_lifeOf G l e3) rfl rfl rfl t_4_145 t_4_119 t_4_120 t_1_3 t_4_121 m_X5_lifeOf ⟨Nat.le_of_ble_eq_true rfl, Nat.le_of_ble_eq_true rfl⟩ ⟨rfl, rfl⟩ ⟨Nat.zero_le _, Nat.zero_le _⟩ rfl (Nat.le_of_ble_eq_true rfl) ?_
      refine r_aload_n C 0 0 dX5_longestHeat_20 rfl rfl ?_
      refine r_iload_n C 1 1 dX5_longestHeat_21 rfl rfl ?_
      refine r_iload_n C 3 3 dX5_longestHeat_22 rfl rfl ?_
      refine r_iload_n C 2 2 dX5_longestHeat_23 rfl rfl ?_
      obtain ⟨r5, σ4, e6, hF⟩ := bd_e hF
      refine r_callV_i (as := [vI c1, vI v3, vI c2]) (st := [vI r2]) C dX5_longestHeat_24 (s_X5_lifeOf G l e6) rfl rfl rfl t_4_145 t_4_119 t_4_120 t_1_3 t_4_121 m_X5_lifeOf ⟨Nat.le_of_ble_eq_true rfl, Nat.le_of_ble_eq_true rfl⟩ ⟨rfl, rfl⟩ ⟨Nat.zero_le _, Nat.zero_le _⟩ rfl (Nat.le_of_ble_eq_true rfl) ?_
      obtain ⟨k8, ek8, hF⟩ := nam_e hF
      have hk8 : ∀ (y7 : Int32) (σ9 : St), k8 y7 σ9 = some (r, σ') → Rt G p l e (lvl 5) s m args below meth c 0 0 (MQ below (va_Qi (fun a b => a = r ∧ b = σ') (Wd G) (AG G)) args s 0 0 (AG G)) 5 33 [(0, vR (3, q0, 0)), (1, vI c1), (2, vI c2), (3, vI y7), (4, vI v4)] [] σ9 := by
        intro y7 σ9 hF
        subst ek8
        obtain ⟨x10, ex10, hF⟩ := nam_e hF
        refine r_iinc (v := x10) (ls2 := [(4, vI x10), (0, vR (3, q0, 0)), (1, vI c1), (2, vI c2), (3, vI y7)]) C 4 dX5_longestHeat_33 rfl ex10.symm (by decide) rfl ?_
        refine r_goto C 5 dX5_longestHeat_36 (by decide) ?_
        refine r_drop (ls2 := [(0, vR (3, q0, 0)), (1, vI c1), (2, vI c2), (3, vI y7), (4, vI x10)]) [1, 2, 3, 4, 0] rfl ?_
        exact ih _ _ _ hF
      refine r_icmp_le C 33 dX5_longestHeat_27 (by decide)  (fun h11 => ?_) (fun h11 => ?_)
      · have hF := if_t h11 hF
        exact hk8 _ _ hF
      · have hF := if_f h11 hF
        refine r_iload C 4 dX5_longestHeat_30 rfl ?_
        refine r_istore_n (ls2 := [(3, vI v4), (0, vR (3, q0, 0)), (1, vI c1), (2, vI c2), (4, vI v4)]) C dX5_longestHeat_32 3 rfl (by decide) rfl ?_
        refine r_drop (ls2 := [(0, vR (3, q0, 0)), (1, vI c1), (2, vI c2), (3, vI v4), (4, vI v4)]) [1, 2, 3, 0, 4] rfl ?_
        exact hk8 _ _ hF
set_option maxRecDepth 20000 in
set_option maxHeartbeats 4000000 in
theorem s_X5_longestHeat (G : Gx) (l : Launch) {q0 : Nat} {a1 : Int32} {a2 : Int32} {σ σ' : St} {r : Int32} (hF : F_X5_longestHeat q0 a1 a2 σ = some (r, σ')) : Sp G l yX5_longestHeat cX5_longestHeat 5 (some .int) (lvl 5) [vR (3, q0, 0), vI a1, vI a2] σ (va_Qi (fun a b => a = r ∧ b = σ') (Wd G) (AG G)) := by
  refine Sp_of (own := RX5) (by decide) rfl (Nat.le_of_ble_eq_true rfl) ?_
  intro p e s m args below meth c C
  show Rt G p l e (lvl 5) s m args below meth c 0 0 (MQ below (va_Qi (fun a b => a = r ∧ b = σ') (Wd G) (AG G)) args s 0 0 (AG G)) 5 0 [(0, vR (3, q0, 0)), (1, vI a1), (2, vI a2)] [] σ
  unfold F_X5_longestHeat at hF
  refine r_iconst (v := (0 : Int32)) C dX5_longestHeat_0 rfl ?_
  refine r_istore_n (ls2 := [(3, vI (0 : Int32)), (0, vR (3, q0, 0)), (1, vI a1), (2, vI a2)]) C dX5_longestHeat_1 3 rfl (by decide) rfl ?_
  refine r_iconst (v := (1 : Int32)) C dX5_longestHeat_2 rfl ?_
  refine r_istore (ls2 := [(4, vI (1 : Int32)), (3, vI (0 : Int32)), (0, vR (3, q0, 0)), (1, vI a1), (2, vI a2)]) C dX5_longestHeat_3 (by decide) rfl ?_
  refine r_drop (ls2 := [(0, vR (3, q0, 0)), (1, vI a1), (2, vI a2), (3, vI (0 : Int32)), (4, vI (1 : Int32))]) [2, 3, 4, 1, 0] rfl ?_
  refine l_X5_longestHeat_5 C q0 a1 a2  _ _ _ _ hF
def L_X5_shortestLife_11 (q0 : Nat) (c1 : Int32) (c2 : Int32) : Nat → Int32 → Int32 → St → Option (Int32 × St)
  | 0, _, _, _ => none
  | n + 1, v3, v4, τ =>
  (if (99 : Int32) < v4 then some (v3, τ) else bd (F_X5_lifeOf q0 c1 v4 c2 τ) fun r5 σ4 => nam (if r5 < v3 then r5 else v3) fun x7 => nam (v4 + (1 : Int32)) fun x8 => L_X5_shortestLife_11 q0 c1 c2 n x7 x8 σ4)
def F_X5_shortestLife (q0 : Nat) (a1 : Int32) (a2 : Int32) (σ : St) : Option (Int32 × St) :=
  bd (F_X5_lifeOf q0 a1 (1 : Int32) a2 σ) fun r2 σ1 => L_X5_shortestLife_11 q0 a1 a2 FU r2 (2 : Int32) σ1 
set_option maxRecDepth 20000 in
set_option maxHeartbeats 4000000 in
theorem l_X5_shortestLife_11 {G : Gx} {p : Program} {l : Launch} {e : Env} {s : State} {m : MethodId} {args : Array Value} {below : List Frame} {meth : Method} {c : Code} (C : Cx G p s m args meth c (some .int) 5 RX5 cX5_shortestLife) (q0 : Nat) (c1 : Int32) (c2 : Int32) {σ' : St} {r : Int32} : ∀ (n : Nat) (v3 : Int32) (v4 : Int32) (τ : St), L_X5_shortestLife_11 q0 c1 c2 n v3 v4 τ = some (r, σ') → Rt G p l e (lvl 5) s m args below meth c 0 0 (MQ below (va_Qi (fun a b => a = r ∧ b = σ') (Wd G) (AG G)) args s 0 0 (AG G)) 5 11 [(0, vR (3, q0, 0)), (1, vI c1), (2, vI c2), (3, vI v3), (4, vI v4)] [] τ := by
  intro n
  induction n with
  | zero => intro v3 v4 τ hF; cases hF
  | succ n ih =>
    intro v3 v4 τ hF
    unfold L_X5_shortestLife_11 at hF
    refine r_iload C 4 dX5_shortestLife_11 rfl ?_
    refine r_bipush (v := (99 : Int32)) C dX5_shortestLife_13 rfl ?_
    refine r_icmp_gt C 37 dX5_shortestLife_15 (by decide)  (fun h9 => ?_) (fun h9 => ?_)
    · have hF := if_t h9 hF
      refine r_iload_n C 3 3 dX5_shortestLife_37 rfl rfl ?_
      exact r_ireturn C dX5_shortestLife_38 (rt_e hF)
    · have hF := if_f h9 hF
      refine r_iload_n C 3 3 dX5_shortestLife_18 rfl rfl ?_
      refine r_aload_n C 0 0 dX5_shortestLife_19 rfl rfl ?_
      refine r_iload_n C 1 1 dX5_shortestLife_20 rfl rfl ?_
      refine r_iload C 4 dX5_shortestLife_21 rfl ?_
      refine r_iload_n C 2 2 dX5_shortestLife_23 rfl rfl ?_
      obtain ⟨r5, σ4, e6, hF⟩ := bd_e hF
      refine r_callV_i (as := [vI c1, vI v4, vI c2]) (st := [vI v3]) C dX5_shortestLife_24 (s_X5_lifeOf G l e6) rfl rfl rfl t_4_145 t_4_119 t_4_120 t_1_3 t_4_121 m_X5_lifeOf ⟨Nat.le_of_ble_eq_true rfl, Nat.le_of_ble_eq_true rfl⟩ ⟨rfl, rfl⟩ ⟨Nat.zero_le _, Nat.zero_le _⟩ rfl (Nat.le_of_ble_eq_true rfl) ?_
      refine r_min C dX5_shortestLife_27 t_4_150 t_2_157 t_1_15 t_2_158 ⟨Nat.le_of_ble_eq_true rfl, Nat.le_of_ble_eq_true rfl⟩ ⟨Nat.zero_le _, Nat.zero_le _⟩ ?_
      obtain ⟨x7, ex7, hF⟩ := nam_e hF
      refine r_topI ex7 ?_
      refine r_istore_n (ls2 := [(3, vI x7), (0, vR (3, q0, 0)), (1, vI c1), (2, vI c2), (4, vI v4)]) C dX5_shortestLife_30 3 rfl (by decide) rfl ?_
      obtain ⟨x8, ex8, hF⟩ := nam_e hF
      refine r_iinc (v := x8) (ls2 := [(4, vI x8), (3, vI x7), (0, vR (3, q0, 0)), (1, vI c1), (2, vI c2)]) C 4 dX5_shortestLife_31 rfl ex8.symm (by decide) rfl ?_
      refine r_goto C 11 dX5_shortestLife_34 (by decide) ?_
      refine r_drop (ls2 := [(0, vR (3, q0, 0)), (1, vI c1), (2, vI c2), (3, vI x7), (4, vI x8)]) [2, 3, 4, 1, 0] rfl ?_
      exact ih _ _ _ hF
set_option maxRecDepth 20000 in
set_option maxHeartbeats 4000000 in
theorem s_X5_shortestLife (G : Gx) (l : Launch) {q0 : Nat} {a1 : Int32} {a2 : Int32} {σ σ' : St} {r : Int32} (hF : F_X5_shortestLife q0 a1 a2 σ = some (r, σ')) : Sp G l yX5_shortestLife cX5_shortestLife 5 (some .int) (lvl 5) [vR (3, q0, 0), vI a1, vI a2] σ (va_Qi (fun a b => a = r ∧ b = σ') (Wd G) (AG G)) := by
  refine Sp_of (own := RX5) (by decide) rfl (Nat.le_of_ble_eq_true rfl) ?_
  intro p e s m args below meth c C
  show Rt G p l e (lvl 5) s m args below meth c 0 0 (MQ below (va_Qi (fun a b => a = r ∧ b = σ') (Wd G) (AG G)) args s 0 0 (AG G)) 5 0 [(0, vR (3, q0, 0)), (1, vI a1), (2, vI a2)] [] σ
  unfold F_X5_shortestLife at hF
  refine r_aload_n C 0 0 dX5_shortestLife_0 rfl rfl ?_
  refine r_iload_n C 1 1 dX5_shortestLife_1 rfl rfl ?_
  refine r_iconst (v := (1 : Int32)) C dX5_shortestLife_2 rfl ?_
  refine r_iload_n C 2 2 dX5_shortestLife_3 rfl rfl ?_
  obtain ⟨r2, σ1, e3, hF⟩ := bd_e hF
  refine r_callV_i (as := [vI a1, vI (1 : Int32), vI a2]) (st := []) C dX5_shortestLife_4 (s_X5_lifeOf G l e3) rfl rfl rfl t_4_145 t_4_119 t_4_120 t_1_3 t_4_121 m_X5_lifeOf ⟨Nat.le_of_ble_eq_true rfl, Nat.le_of_ble_eq_true rfl⟩ ⟨rfl, rfl⟩ ⟨Nat.zero_le _, Nat.zero_le _⟩ rfl (Nat.le_of_ble_eq_true rfl) ?_
  refine r_istore_n (ls2 := [(3, vI r2), (0, vR (3, q0, 0)), (1, vI a1), (2, vI a2)]) C dX5_shortestLife_7 3 rfl (by decide) rfl ?_
  refine r_iconst (v := (2 : Int32)) C dX5_shortestLife_8 rfl ?_
  refine r_istore (ls2 := [(4, vI (2 : Int32)), (3, vI r2), (0, vR (3, q0, 0)), (1, vI a1), (2, vI a2)]) C dX5_shortestLife_9 (by decide) rfl ?_
  refine r_drop (ls2 := [(0, vR (3, q0, 0)), (1, vI a1), (2, vI a2), (3, vI r2), (4, vI (2 : Int32))]) [2, 3, 4, 1, 0] rfl ?_
  refine l_X5_shortestLife_11 C q0 a1 a2  _ _ _ _ hF
def L_X5_firstLonger_2 (q0 : Nat) (c1 : Int32) (c2 : Int32) : Nat → Int32 → St → Option (Int32 × St)
  | 0, _, _ => none
  | n + 1, v3, τ =>
  (if (99 : Int32) < v3 then some ((-4 : Int32), τ) else bd (F_X5_lifeOf q0 c1 v3 c2 τ) fun r2 σ1 => bd (F_X5_lifeOf q0 c1 (v3 - (1 : Int32)) c2 σ1) fun r5 σ4 => (if r2 ≤ r5 then nam (v3 + (1 : Int32)) fun x7 => L_X5_firstLonger_2 q0 c1 c2 n x7 σ4 else some (v3, σ4)))
def F_X5_firstLonger (q0 : Nat) (a1 : Int32) (a2 : Int32) (σ : St) : Option (Int32 × St) :=
  L_X5_firstLonger_2 q0 a1 a2 FU (1 : Int32) σ 
set_option maxRecDepth 20000 in
set_option maxHeartbeats 4000000 in
theorem l_X5_firstLonger_2 {G : Gx} {p : Program} {l : Launch} {e : Env} {s : State} {m : MethodId} {args : Array Value} {below : List Frame} {meth : Method} {c : Code} (C : Cx G p s m args meth c (some .int) 4 RX5 cX5_firstLonger) (q0 : Nat) (c1 : Int32) (c2 : Int32) {σ' : St} {r : Int32} : ∀ (n : Nat) (v3 : Int32) (τ : St), L_X5_firstLonger_2 q0 c1 c2 n v3 τ = some (r, σ') → Rt G p l e (lvl 5) s m args below meth c 0 0 (MQ below (va_Qi (fun a b => a = r ∧ b = σ') (Wd G) (AG G)) args s 0 0 (AG G)) 4 2 [(0, vR (3, q0, 0)), (1, vI c1), (2, vI c2), (3, vI v3)] [] τ := by
  intro n
  induction n with
  | zero => intro v3 τ hF; cases hF
  | succ n ih =>
    intro v3 τ hF
    unfold L_X5_firstLonger_2 at hF
    refine r_iload_n C 3 3 dX5_firstLonger_2 rfl rfl ?_
    refine r_bipush (v := (99 : Int32)) C dX5_firstLonger_3 rfl ?_
    refine r_icmp_gt C 35 dX5_firstLonger_5 (by decide)  (fun h9 => ?_) (fun h9 => ?_)
    · have hF := if_t h9 hF
      refine r_bipush (v := (-4 : Int32)) C dX5_firstLonger_35 rfl ?_
      exact r_ireturn C dX5_firstLonger_37 (rt_e hF)
    · have hF := if_f h9 hF
      refine r_aload_n C 0 0 dX5_firstLonger_8 rfl rfl ?_
      refine r_iload_n C 1 1 dX5_firstLonger_9 rfl rfl ?_
      refine r_iload_n C 3 3 dX5_firstLonger_10 rfl rfl ?_
      refine r_iload_n C 2 2 dX5_firstLonger_11 rfl rfl ?_
      obtain ⟨r2, σ1, e3, hF⟩ := bd_e hF
      refine r_callV_i (as := [vI c1, vI v3, vI c2]) (st := []) C dX5_firstLonger_12 (s_X5_lifeOf G l e3) rfl rfl rfl t_4_145 t_4_119 t_4_120 t_1_3 t_4_121 m_X5_lifeOf ⟨Nat.le_of_ble_eq_true rfl, Nat.le_of_ble_eq_true rfl⟩ ⟨rfl, rfl⟩ ⟨Nat.zero_le _, Nat.zero_le _⟩ rfl (Nat.le_of_ble_eq_true rfl) ?_
      refine r_aload_n C 0 0 dX5_firstLonger_15 rfl rfl ?_
      refine r_iload_n C 1 1 dX5_firstLonger_16 rfl rfl ?_
      refine r_iload_n C 3 3 dX5_firstLonger_17 rfl rfl ?_
      refine r_iconst (v := (1 : Int32)) C dX5_firstLonger_18 rfl ?_
      refine r_isub C dX5_firstLonger_19 ?_
      refine r_iload_n C 2 2 dX5_firstLonger_20 rfl rfl ?_
      obtain ⟨r5, σ4, e6, hF⟩ := bd_e hF
      refine r_callV_i (as := [vI c1, vI (v3 - (1 : Int32)), vI c2]) (st := [vI r2]) C dX5_firstLonger_21 (s_X5_lifeOf G l e6) rfl rfl rfl t_4_145 t_4_119 t_4_120 t_1_3 t_4_121 m_X5_lifeOf ⟨Nat.le_of_ble_eq_true rfl, Nat.le_of_ble_eq_true rfl⟩ ⟨rfl, rfl⟩ ⟨Nat.zero_le _, Nat.zero_le _⟩ rfl (Nat.le_of_ble_eq_true rfl) ?_
      refine r_icmp_le C 29 dX5_firstLonger_24 (by decide)  (fun h8 => ?_) (fun h8 => ?_)
      · have hF := if_t h8 hF
        obtain ⟨x7, ex7, hF⟩ := nam_e hF
        refine r_iinc (v := x7) (ls2 := [(3, vI x7), (0, vR (3, q0, 0)), (1, vI c1), (2, vI c2)]) C 3 dX5_firstLonger_29 rfl ex7.symm (by decide) rfl ?_
        refine r_goto C 2 dX5_firstLonger_32 (by decide) ?_
        refine r_drop (ls2 := [(0, vR (3, q0, 0)), (1, vI c1), (2, vI c2), (3, vI x7)]) [1, 2, 3, 0] rfl ?_
        exact ih _ _ hF
      · have hF := if_f h8 hF
        refine r_iload_n C 3 3 dX5_firstLonger_27 rfl rfl ?_
        exact r_ireturn C dX5_firstLonger_28 (rt_e hF)
set_option maxRecDepth 20000 in
set_option maxHeartbeats 4000000 in
theorem s_X5_firstLonger (G : Gx) (l : Launch) {q0 : Nat} {a1 : Int32} {a2 : Int32} {σ σ' : St} {r : Int32} (hF : F_X5_firstLonger q0 a1 a2 σ = some (r, σ')) : Sp G l yX5_firstLonger cX5_firstLonger 4 (some .int) (lvl 5) [vR (3, q0, 0), vI a1, vI a2] σ (va_Qi (fun a b => a = r ∧ b = σ') (Wd G) (AG G)) := by
  refine Sp_of (own := RX5) (by decide) rfl (Nat.le_of_ble_eq_true rfl) ?_
  intro p e s m args below meth c C
  show Rt G p l e (lvl 5) s m args below meth c 0 0 (MQ below (va_Qi (fun a b => a = r ∧ b = σ') (Wd G) (AG G)) args s 0 0 (AG G)) 4 0 [(0, vR (3, q0, 0)), (1, vI a1), (2, vI a2)] [] σ
  unfold F_X5_firstLonger at hF
  refine r_iconst (v := (1 : Int32)) C dX5_firstLonger_0 rfl ?_
  refine r_istore_n (ls2 := [(3, vI (1 : Int32)), (0, vR (3, q0, 0)), (1, vI a1), (2, vI a2)]) C dX5_firstLonger_1 3 rfl (by decide) rfl ?_
  refine r_drop (ls2 := [(0, vR (3, q0, 0)), (1, vI a1), (2, vI a2), (3, vI (1 : Int32))]) [1, 2, 3, 0] rfl ?_
  refine l_X5_firstLonger_2 C q0 a1 a2  _ _ _ hF
def F_X10_hump (a1 : Int32) (a2 : Int32) (a3 : Int32) (σ : St) : Option (Int32 × St) :=
  bd (F_X10_isSize a1 σ) fun r2 σ1 => (if r2 = 0 then some ((-1 : Int32), σ1) else (if a3 = (0 : Int32) then bd (F_X5_longestHeat 0 a1 a2 σ1) fun r6 σ5 => some (r6, σ5) else (if a3 = (1 : Int32) then bd (F_X5_longestHeat 0 a1 a2 σ1) fun r10 σ9 => bd (F_X5_lifeOf 0 a1 r10 a2 σ9) fun r13 σ12 => some (r13, σ12) else (if a3 = (2 : Int32) then bd (F_X5_shortestLife 0 a1 a2 σ1) fun r17 σ16 => some (r17, σ16) else (if a3 = (3 : Int32) then bd (F_X5_firstLonger 0 a1 a2 σ1) fun r21 σ20 => some (r21, σ20) else some ((-1 : Int32), σ1))))))
set_option maxRecDepth 20000 in
set_option maxHeartbeats 4000000 in
theorem s_X10_hump (G : Gx) (l : Launch) {a1 : Int32} {a2 : Int32} {a3 : Int32} {σ σ' : St} {r : Int32} (hF : F_X10_hump a1 a2 a3 σ = some (r, σ')) : Sp G l yX10_hump cX10_hump 4 (some .int) (lvl 6) [vR (0, 0, 0), vI a1, vI a2, vI a3] σ (va_Qi (fun a b => a = r ∧ b = σ') (Wd G) (AG G)) := by
  refine Sp_of (own := RX10) (by decide) rfl (Nat.le_of_ble_eq_true rfl) ?_
  intro p e s m args below meth c C
  show Rt G p l e (lvl 6) s m args below meth c 0 0 (MQ below (va_Qi (fun a b => a = r ∧ b = σ') (Wd G) (AG G)) args s 0 0 (AG G)) 4 0 [(0, vR (0, 0, 0)), (1, vI a1), (2, vI a2), (3, vI a3)] [] σ
  unfold F_X10_hump at hF
  refine r_iload_n C 1 1 dX10_hump_0 rfl rfl ?_
  obtain ⟨r2, σ1, e3, hF⟩ := bd_e hF
  refine r_callS_i (as := [vI a1]) (st := []) C dX10_hump_1 (s_X10_isSize G l e3) t_3_155 t_3_156 t_1_1 t_3_157 m_X10_isSize ⟨Nat.le_of_ble_eq_true rfl, Nat.le_of_ble_eq_true rfl⟩ ⟨rfl, rfl⟩ ⟨Nat.zero_le _, Nat.zero_le _⟩ rfl (Nat.le_of_ble_eq_true rfl) ?_
  refine r_if_ne C 9 dX10_hump_4 (by decide)  (fun h23 => ?_) (fun h23 => ?_)
  · have hF := if_f h23 hF
    refine r_iload_n C 3 3 dX10_hump_9 rfl rfl ?_
    by_cases h4 : a3 = (0 : Int32)
    · have hF := if_t h4 hF
      refine r_tabIn (off := 30) C 40 dX10_hump_10 (by rw [h4]; decide) (by rw [h4]; decide) (by rw [h4]; rfl) (by decide) ?_
      refine r_aload_n C 0 0 dX10_hump_40 rfl rfl ?_
      refine r_getR (kf := 3) (d2 := (3, 0, 0)) C dX10_hump_41 rfl rfl f_X10 (by decide) t_2_99 rfl rfl ?_
      refine r_iload_n C 1 1 dX10_hump_44 rfl rfl ?_
      refine r_iload_n C 2 2 dX10_hump_45 rfl rfl ?_
      obtain ⟨r6, σ5, e7, hF⟩ := bd_e hF
      refine r_callV_i (as := [vI a1, vI a2]) (st := []) C dX10_hump_46 (s_X5_longestHeat G l e7) rfl rfl rfl t_4_141 t_4_142 t_4_143 t_1_3 t_4_144 m_X5_longestHeat ⟨Nat.le_of_ble_eq_true rfl, Nat.le_of_ble_eq_true rfl⟩ ⟨rfl, rfl⟩ ⟨Nat.zero_le _, Nat.zero_le _⟩ rfl (Nat.le_of_ble_eq_true rfl) ?_
      exact r_ireturn C dX10_hump_49 (rt_e hF)
    have hF := if_f h4 hF
    by_cases h8 : a3 = (1 : Int32)
    · have hF := if_t h8 hF
      refine r_tabIn (off := 40) C 50 dX10_hump_10 (by rw [h8]; decide) (by rw [h8]; decide) (by rw [h8]; rfl) (by decide) ?_
      refine r_aload_n C 0 0 dX10_hump_50 rfl rfl ?_
      refine r_getR (kf := 3) (d2 := (3, 0, 0)) C dX10_hump_51 rfl rfl f_X10 (by decide) t_2_99 rfl rfl ?_
      refine r_iload_n C 1 1 dX10_hump_54 rfl rfl ?_
      refine r_aload_n C 0 0 dX10_hump_55 rfl rfl ?_
      refine r_getR (kf := 3) (d2 := (3, 0, 0)) C dX10_hump_56 rfl rfl f_X10 (by decide) t_2_99 rfl rfl ?_
      refine r_iload_n C 1 1 dX10_hump_59 rfl rfl ?_
      refine r_iload_n C 2 2 dX10_hump_60 rfl rfl ?_
      obtain ⟨r10, σ9, e11, hF⟩ := bd_e hF
      refine r_callV_i (as := [vI a1, vI a2]) (st := [vI a1, vR (3, 0, 0)]) C dX10_hump_61 (s_X5_longestHeat G l e11) rfl rfl rfl t_4_141 t_4_142 t_4_143 t_1_3 t_4_144 m_X5_longestHeat ⟨Nat.le_of_ble_eq_true rfl, Nat.le_of_ble_eq_true rfl⟩ ⟨rfl, rfl⟩ ⟨Nat.zero_le _, Nat.zero_le _⟩ rfl (Nat.le_of_ble_eq_true rfl) ?_
      refine r_iload_n C 2 2 dX10_hump_64 rfl rfl ?_
      obtain ⟨r13, σ12, e14, hF⟩ := bd_e hF
      refine r_callV_i (as := [vI a1, vI r10, vI a2]) (st := []) C dX10_hump_65 (s_X5_lifeOf G l e14) rfl rfl rfl t_4_118 t_4_119 t_4_120 t_1_3 t_4_121 m_X5_lifeOf ⟨Nat.le_of_ble_eq_true rfl, Nat.le_of_ble_eq_true rfl⟩ ⟨rfl, rfl⟩ ⟨Nat.zero_le _, Nat.zero_le _⟩ rfl (Nat.le_of_ble_eq_true rfl) ?_
      exact r_ireturn C dX10_hump_68 (rt_e hF)
    have hF := if_f h8 hF
    by_cases h15 : a3 = (2 : Int32)
    · have hF := if_t h15 hF
      refine r_tabIn (off := 59) C 69 dX10_hump_10 (by rw [h15]; decide) (by rw [h15]; decide) (by rw [h15]; rfl) (by decide) ?_
      refine r_aload_n C 0 0 dX10_hump_69 rfl rfl ?_
      refine r_getR (kf := 3) (d2 := (3, 0, 0)) C dX10_hump_70 rfl rfl f_X10 (by decide) t_2_99 rfl rfl ?_
      refine r_iload_n C 1 1 dX10_hump_73 rfl rfl ?_
      refine r_iload_n C 2 2 dX10_hump_74 rfl rfl ?_
      obtain ⟨r17, σ16, e18, hF⟩ := bd_e hF
      refine r_callV_i (as := [vI a1, vI a2]) (st := []) C dX10_hump_75 (s_X5_shortestLife G l e18) rfl rfl rfl t_4_146 t_4_147 t_4_148 t_1_3 t_4_149 m_X5_shortestLife ⟨Nat.le_of_ble_eq_true rfl, Nat.le_of_ble_eq_true rfl⟩ ⟨rfl, rfl⟩ ⟨Nat.zero_le _, Nat.zero_le _⟩ rfl (Nat.le_of_ble_eq_true rfl) ?_
      exact r_ireturn C dX10_hump_78 (rt_e hF)
    have hF := if_f h15 hF
    by_cases h19 : a3 = (3 : Int32)
    · have hF := if_t h19 hF
      refine r_tabIn (off := 69) C 79 dX10_hump_10 (by rw [h19]; decide) (by rw [h19]; decide) (by rw [h19]; rfl) (by decide) ?_
      refine r_aload_n C 0 0 dX10_hump_79 rfl rfl ?_
      refine r_getR (kf := 3) (d2 := (3, 0, 0)) C dX10_hump_80 rfl rfl f_X10 (by decide) t_2_99 rfl rfl ?_
      refine r_iload_n C 1 1 dX10_hump_83 rfl rfl ?_
      refine r_iload_n C 2 2 dX10_hump_84 rfl rfl ?_
      obtain ⟨r21, σ20, e22, hF⟩ := bd_e hF
      refine r_callV_i (as := [vI a1, vI a2]) (st := []) C dX10_hump_85 (s_X5_firstLonger G l e22) rfl rfl rfl t_4_151 t_4_152 t_4_153 t_1_3 t_4_154 m_X5_firstLonger ⟨Nat.le_of_ble_eq_true rfl, Nat.le_of_ble_eq_true rfl⟩ ⟨rfl, rfl⟩ ⟨Nat.zero_le _, Nat.zero_le _⟩ rfl (Nat.le_of_ble_eq_true rfl) ?_
      exact r_ireturn C dX10_hump_88 (rt_e hF)
    have hF := if_f h19 hF
    refine r_tabOut C 89 dX10_hump_10 (by have u0 := lv_neT h4 (a := 0) rfl; have u1 := lv_neT h8 (a := 1) rfl; have u2 := lv_neT h15 (a := 2) rfl; have u3 := lv_neT h19 (a := 3) rfl; omega) (by decide) ?_
    refine r_iconst (v := (-1 : Int32)) C dX10_hump_89 rfl ?_
    exact r_ireturn C dX10_hump_90 (rt_e hF)
  · have hF := if_t h23 hF
    refine r_iconst (v := (-1 : Int32)) C dX10_hump_7 rfl ?_
    exact r_ireturn C dX10_hump_8 (rt_e hF)
