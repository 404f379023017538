def F_X10_mend (a1 : Int32) (a2 : Int32) (a3 : Int32) (a4 : Int32) (a5 : Int32) (σ : St) : Option (Int32 × St) :=
  bd (F_X10_isDropToBe a1 a2 a3 σ) fun r2 σ1 => (if r2 = 0 then some ((-1 : Int32), σ1) else bd (F_X10_isCell a4 σ1) fun r5 σ4 => (if r5 = 0 then some ((-1 : Int32), σ4) else bd (F_X10_within a5 (0 : Int32) (2 : Int32) σ4) fun r8 σ7 => (if r8 = 0 then some ((-1 : Int32), σ7) else bd (F_X6_isOpen 0 a1 σ7) fun r11 σ10 => (if r11 = 0 then some ((-2 : Int32), σ10) else bd (F_X2_begin 0 a1 a2 a3 σ10) fun _ σ13 => bd (F_X2_findMend 0 a4 σ13) fun r16 σ15 => (if r16 = 0 then some ((-4 : Int32), σ15) else (if a5 = (0 : Int32) then some (σ15.1 (13, 0, 0) 6, σ15) else (if a5 = (1 : Int32) then some (σ15.1 (13, 0, 0) 7, σ15) else some (σ15.1 (13, 0, 0) 8, σ15))))))))
set_option maxRecDepth 20000 in
set_option maxHeartbeats 4000000 in
theorem s_X10_mend (G : Gx) (l : Launch) {a1 : Int32} {a2 : Int32} {a3 : Int32} {a4 : Int32} {a5 : Int32} {σ σ' : St} {r : Int32} (hF : F_X10_mend a1 a2 a3 a4 a5 σ = some (r, σ')) : Sp G l yX10_mend cX10_mend 6 (some .int) (lvl 6) [vR (0, 0, 0), vI a1, vI a2, vI a3, vI a4, vI a5] σ (va_Qi (fun a b => a = r ∧ b = σ') (Wd G) (AG G)) := by
  refine Sp_of (own := RX10) (by decide) rfl (Nat.le_of_ble_eq_true rfl) ?_
  intro p e s m args below meth c C
  show Rt G p l e (lvl 6) s m args below meth c 0 0 (MQ below (va_Qi (fun a b => a = r ∧ b = σ') (Wd G) (AG G)) args s 0 0 (AG G)) 6 0 [(0, vR (0, 0, 0)), (1, vI a1), (2, vI a2), (3, vI a3), (4, vI a4), (5, vI a5)] [] σ
  unfold F_X10_mend at hF
  refine r_iload_n C 1 1 dX10_mend_0 rfl rfl ?_
  refine r_iload_n C 2 2 dX10_mend_1 rfl rfl ?_
  refine r_iload_n C 3 3 dX10_mend_2 rfl rfl ?_
  obtain ⟨r2, σ1, e3, hF⟩ := bd_e hF
  refine r_callS_i (as := [vI a1, vI a2, vI a3]) (st := []) C dX10_mend_3 (s_X10_isDropToBe G l e3) t_3_154 t_3_155 t_1_1 t_3_156 m_X10_isDropToBe ⟨Nat.le_of_ble_eq_true rfl, Nat.le_of_ble_eq_true rfl⟩ ⟨rfl, rfl⟩ ⟨Nat.zero_le _, Nat.zero_le _⟩ rfl (Nat.le_of_ble_eq_true rfl) ?_
  refine r_if_eq C 27 dX10_mend_6 (by decide)  (fun h24 => ?_) (fun h24 => ?_)
  · have hF := if_t h24 hF
    refine r_iconst (v := (-1 : Int32)) C dX10_mend_27 rfl ?_
    exact r_ireturn C dX10_mend_28 (rt_e hF)
  · have hF := if_f h24 hF
    refine r_iload C 4 dX10_mend_9 rfl ?_
    obtain ⟨r5, σ4, e6, hF⟩ := bd_e hF
    refine r_callS_i (as := [vI a4]) (st := []) C dX10_mend_11 (s_X10_isCell G l e6) t_3_120 t_3_121 t_1_1 t_3_122 m_X10_isCell ⟨Nat.le_of_ble_eq_true rfl, Nat.le_of_ble_eq_true rfl⟩ ⟨rfl, rfl⟩ ⟨Nat.zero_le _, Nat.zero_le _⟩ rfl (Nat.le_of_ble_eq_true rfl) ?_
    refine r_if_eq C 27 dX10_mend_14 (by decide)  (fun h23 => ?_) (fun h23 => ?_)
    · have hF := if_t h23 hF
      refine r_iconst (v := (-1 : Int32)) C dX10_mend_27 rfl ?_
      exact r_ireturn C dX10_mend_28 (rt_e hF)
    · have hF := if_f h23 hF
      refine r_iload C 5 dX10_mend_17 rfl ?_
      refine r_iconst (v := (0 : Int32)) C dX10_mend_19 rfl ?_
      refine r_iconst (v := (2 : Int32)) C dX10_mend_20 rfl ?_
      obtain ⟨r8, σ7, e9, hF⟩ := bd_e hF
      refine r_callS_i (as := [vI a5, vI (0 : Int32), vI (2 : Int32)]) (st := []) C dX10_mend_21 (s_X10_within G l e9) t_2_143 t_2_144 t_1_1 t_2_145 m_X10_within ⟨Nat.le_of_ble_eq_true rfl, Nat.le_of_ble_eq_true rfl⟩ ⟨rfl, rfl⟩ ⟨Nat.zero_le _, Nat.zero_le _⟩ rfl (Nat.le_of_ble_eq_true rfl) ?_
      refine r_if_ne C 29 dX10_mend_24 (by decide)  (fun h22 => ?_) (fun h22 => ?_)
      · have hF := if_f h22 hF
        refine r_aload_n C 0 0 dX10_mend_29 rfl rfl ?_
        refine r_getR (kf := 5) (d2 := (7, 0, 0)) C dX10_mend_30 rfl rfl f_X10 (by decide) t_2_100 rfl rfl ?_
        refine r_iload_n C 1 1 dX10_mend_33 rfl rfl ?_
        obtain ⟨r11, σ10, e12, hF⟩ := bd_e hF
        refine r_callV_i (as := [vI a1]) (st := []) C dX10_mend_34 (s_X6_isOpen G l e12) rfl rfl rfl t_3_163 t_3_164 t_3_165 t_1_5 t_3_166 m_X6_isOpen ⟨Nat.le_of_ble_eq_true rfl, Nat.le_of_ble_eq_true rfl⟩ ⟨rfl, rfl⟩ ⟨Nat.zero_le _, Nat.zero_le _⟩ rfl (Nat.le_of_ble_eq_true rfl) ?_
        refine r_if_ne C 43 dX10_mend_37 (by decide)  (fun h21 => ?_) (fun h21 => ?_)
        · have hF := if_f h21 hF
          refine r_aload_n C 0 0 dX10_mend_43 rfl rfl ?_
          refine r_getR (kf := 7) (d2 := (13, 0, 0)) C dX10_mend_44 rfl rfl f_X10 (by decide) t_2_102 rfl rfl ?_
          refine r_aload_n C 0 0 dX10_mend_47 rfl rfl ?_
          refine r_getR (kf := 5) (d2 := (7, 0, 0)) C dX10_mend_48 rfl rfl f_X10 (by decide) t_2_100 rfl rfl ?_
          refine r_iload_n C 1 1 dX10_mend_51 rfl rfl ?_
          refine r_iload_n C 2 2 dX10_mend_52 rfl rfl ?_
          refine r_iload_n C 3 3 dX10_mend_53 rfl rfl ?_
          obtain ⟨⟨⟩, σ13, e14, hF⟩ := bd_e hF
          refine r_callV_v (as := [vR (7, 0, 0), vI a1, vI a2, vI a3]) (st := []) C dX10_mend_54 (s_X2_begin G l e14) rfl rfl rfl t_4_55 t_4_56 t_4_57 t_1_8 t_4_58 m_X2_begin ⟨Nat.le_of_ble_eq_true rfl, Nat.le_of_ble_eq_true rfl⟩ ⟨rfl, rfl⟩ ⟨Nat.zero_le _, Nat.zero_le _⟩ rfl (Nat.le_of_ble_eq_true rfl) ?_
          refine r_aload_n C 0 0 dX10_mend_57 rfl rfl ?_
          refine r_getR (kf := 7) (d2 := (13, 0, 0)) C dX10_mend_58 rfl rfl f_X10 (by decide) t_2_102 rfl rfl ?_
          refine r_aload_n C 0 0 dX10_mend_61 rfl rfl ?_
          refine r_getR (kf := 4) (d2 := (3, 0, 0)) C dX10_mend_62 rfl rfl f_X10 (by decide) t_2_99 rfl rfl ?_
          refine r_iload C 4 dX10_mend_65 rfl ?_
          obtain ⟨r16, σ15, e17, hF⟩ := bd_e hF
          refine r_callV_i (as := [vR (3, 0, 0), vI a4]) (st := []) C dX10_mend_67 (s_X2_findMend G l e17) rfl rfl rfl t_4_107 t_4_108 t_4_109 t_1_8 t_4_110 m_X2_findMend ⟨Nat.le_of_ble_eq_true rfl, Nat.le_of_ble_eq_true rfl⟩ ⟨rfl, rfl⟩ ⟨Nat.zero_le _, Nat.zero_le _⟩ rfl (Nat.le_of_ble_eq_true rfl) ?_
          refine r_if_ne C 76 dX10_mend_70 (by decide)  (fun h20 => ?_) (fun h20 => ?_)
          · have hF := if_f h20 hF
            refine r_iload C 5 dX10_mend_76 rfl ?_
            by_cases h18 : a5 = (0 : Int32)
            · have hF := if_t h18 hF
              refine r_look (off := 26) C 104 dX10_mend_78 (by decide) (by rw [h18]; rfl) (by decide) ?_
              refine r_aload_n C 0 0 dX10_mend_104 rfl rfl ?_
              refine r_getR (kf := 7) (d2 := (13, 0, 0)) C dX10_mend_105 rfl rfl f_X10 (by decide) t_2_102 rfl rfl ?_
              refine r_getI (kf := 6) C dX10_mend_108 rfl rfl f_X2 (by decide) t_1_216 rfl ?_
              exact r_ireturn C dX10_mend_111 (rt_e hF)
            have hF := if_f h18 hF
            by_cases h19 : a5 = (1 : Int32)
            · have hF := if_t h19 hF
              refine r_look (off := 34) C 112 dX10_mend_78 (by decide) ((lv_osw (a := 0) h18 rfl).trans (by rw [h19]; rfl)) (by decide) ?_
              refine r_aload_n C 0 0 dX10_mend_112 rfl rfl ?_
              refine r_getR (kf := 7) (d2 := (13, 0, 0)) C dX10_mend_113 rfl rfl f_X10 (by decide) t_2_102 rfl rfl ?_
              refine r_getI (kf := 7) C dX10_mend_116 rfl rfl f_X2 (by decide) t_1_218 rfl ?_
              exact r_ireturn C dX10_mend_119 (rt_e hF)
            have hF := if_f h19 hF
            refine r_look (off := 42) C 120 dX10_mend_78 (by decide) ((lv_osw (a := 0) h18 rfl).trans ((lv_osw (a := 1) h19 rfl).trans rfl)) (by decide) ?_
            refine r_aload_n C 0 0 dX10_mend_120 rfl rfl ?_
            refine r_getR (kf := 7) (d2 := (13, 0, 0)) C dX10_mend_121 rfl rfl f_X10 (by decide) t_2_102 rfl rfl ?_
            refine r_getI (kf := 8) C dX10_mend_124 rfl rfl f_X2 (by decide) t_1_220 rfl ?_
            exact r_ireturn C dX10_mend_127 (rt_e hF)
          · have hF := if_t h20 hF
            refine r_bipush (v := (-4 : Int32)) C dX10_mend_73 rfl ?_
            exact r_ireturn C dX10_mend_75 (rt_e hF)
        · have hF := if_t h21 hF
          refine r_bipush (v := (-2 : Int32)) C dX10_mend_40 rfl ?_
          exact r_ireturn C dX10_mend_42 (rt_e hF)
      · have hF := if_t h22 hF
        refine r_iconst (v := (-1 : Int32)) C dX10_mend_27 rfl ?_
        exact r_ireturn C dX10_mend_28 (rt_e hF)
def F_X5_lifeTouching (q0 : Nat) (a1 : Int32) (a2 : Int32) (σ : St) : Option (Int32 × St) :=
  bd (F_X5_lossTouching q0 a2 σ) fun r2 σ1 => (if r2 ≤ 0 then some ((0 : Int32), σ1) else ck (decide (¬ r2 = 0)) (some (((a1 + r2) - (1 : Int32)) / r2, σ1)))
set_option maxRecDepth 20000 in
set_option maxHeartbeats 4000000 in
theorem s_X5_lifeTouching (G : Gx) (l : Launch) {q0 : Nat} {a1 : Int32} {a2 : Int32} {σ σ' : St} {r : Int32} (hF : F_X5_lifeTouching q0 a1 a2 σ = some (r, σ')) : Sp G l yX5_lifeTouching cX5_lifeTouching 4 (some .int) (lvl 1) [vR (3, q0, 0), vI a1, vI a2] σ (va_Qi (fun a b => a = r ∧ b = σ') (Wd G) (AG G)) := by
  refine Sp_of (own := RX5) (by decide) rfl (Nat.le_of_ble_eq_true rfl) ?_
  intro p e s m args below meth c C
  show Rt G p l e (lvl 1) s m args below meth c 0 0 (MQ below (va_Qi (fun a b => a = r ∧ b = σ') (Wd G) (AG G)) args s 0 0 (AG G)) 4 0 [(0, vR (3, q0, 0)), (1, vI a1), (2, vI a2)] [] σ
  unfold F_X5_lifeTouching at hF
  refine r_aload_n C 0 0 dX5_lifeTouching_0 rfl rfl ?_
  refine r_iload_n C 2 2 dX5_lifeTouching_1 rfl rfl ?_
  obtain ⟨r2, σ1, e3, hF⟩ := bd_e hF
  refine r_callV_i (as := [vI a2]) (st := []) C dX5_lifeTouching_2 (s_X5_lossTouching G l e3) rfl rfl rfl t_4_138 t_3_189 t_3_190 t_1_3 t_3_191 m_X5_lossTouching ⟨Nat.le_of_ble_eq_true rfl, Nat.le_of_ble_eq_true rfl⟩ ⟨rfl, rfl⟩ ⟨Nat.zero_le _, Nat.zero_le _⟩ rfl (Nat.le_of_ble_eq_true rfl) ?_
  refine r_istore_n (ls2 := [(3, vI r2), (0, vR (3, q0, 0)), (1, vI a1), (2, vI a2)]) C dX5_lifeTouching_5 3 rfl (by decide) rfl ?_
  refine r_iload_n C 0 3 dX5_lifeTouching_6 rfl rfl ?_
  refine r_if_le C 20 dX5_lifeTouching_7 (by decide)  (fun h5 => ?_) (fun h5 => ?_)
  · have hF := if_t h5 hF
    refine r_iconst (v := (0 : Int32)) C dX5_lifeTouching_20 rfl ?_
    exact r_ireturn C dX5_lifeTouching_21 (rt_e hF)
  · have hF := if_f h5 hF
    refine r_iload_n C 2 1 dX5_lifeTouching_10 rfl rfl ?_
    refine r_iload_n C 0 3 dX5_lifeTouching_11 rfl rfl ?_
    refine r_iadd C dX5_lifeTouching_12 ?_
    refine r_iconst (v := (1 : Int32)) C dX5_lifeTouching_13 rfl ?_
    refine r_isub C dX5_lifeTouching_14 ?_
    refine r_iload_n C 0 3 dX5_lifeTouching_15 rfl rfl ?_
    obtain ⟨h4, hF⟩ := ck_e hF
    refine r_idiv C dX5_lifeTouching_16 (nz h4) ?_
    refine r_goto C 21 dX5_lifeTouching_17 (by decide) ?_
    exact r_ireturn C dX5_lifeTouching_21 (rt_e hF)
def L_X5_lifeFloating_4 (q0 : Nat) : Nat → Int32 → Int32 → St → (Int32 → St → Option (Int32 × St)) → Option (Int32 × St)
  | 0, _, _, _, _ => none
  | n + 1, v2, v3, τ, kx31 =>
  bd (F_X5_lossFloating q0 v2 τ) fun r2 σ1 => nam (v2 - r2) fun x4 => nam (v3 + (1 : Int32)) fun x5 => ck (inb (4 : Int32) 9) ((if x4 ≤ (σ1.1 (4, q0, 0) 4) then kx31 x5 σ1 else (if x5 < (60 : Int32) then L_X5_lifeFloating_4 q0 n x4 x5 σ1 kx31 else kx31 x5 σ1)))
def F_X5_lifeFloating (q0 : Nat) (a1 : Int32) (σ : St) : Option (Int32 × St) :=
  L_X5_lifeFloating_4 q0 FU a1 (0 : Int32) σ (fun (y10 : Int32) (σ9 : St) => ck (inb (7 : Int32) 9) (some (((y10 - (1 : Int32)) * (σ9.1 (4, q0, 0) 7)) + (1 : Int32), σ9)))
set_option maxRecDepth 20000 in
set_option maxHeartbeats 4000000 in
theorem l_X5_lifeFloating_4 {G : Gx} {p : Program} {l : Launch} {e : Env} {s : State} {m : MethodId} {args : Array Value} {below : List Frame} {meth : Method} {c : Code} (C : Cx G p s m args meth c (some .int) 4 RX5 cX5_lifeFloating) (q0 : Nat) {σ' : St} {r : Int32} (kx31 : Int32 → St → Option (Int32 × St)) (hkx31 : ∀ (w3 : Int32) (τ : St), kx31 w3 τ = some (r, σ') → Rt G p l e (lvl 2) s m args below meth c 0 0 (MQ below (va_Qi (fun a b => a = r ∧ b = σ') (Wd G) (AG G)) args s 0 0 (AG G)) 4 31 [(0, vR (3, q0, 0)), (3, vI w3)] [] τ) : ∀ (n : Nat) (v2 : Int32) (v3 : Int32) (τ : St), L_X5_lifeFloating_4 q0 n v2 v3 τ kx31 = some (r, σ') → Rt G p l e (lvl 2) s m args below meth c 0 0 (MQ below (va_Qi (fun a b => a = r ∧ b = σ') (Wd G) (AG G)) args s 0 0 (AG G)) 4 4 [(0, vR (3, q0, 0)), (2, vI v2), (3, vI v3)] [] τ := by
  intro n
  induction n with
  | zero => intro v2 v3 τ hF; cases hF
  | succ n ih =>
    intro v2 v3 τ hF
    unfold L_X5_lifeFloating_4 at hF
    refine r_iload_n C 1 2 dX5_lifeFloating_4 rfl rfl ?_
    refine r_aload_n C 0 0 dX5_lifeFloating_5 rfl rfl ?_
    refine r_iload_n C 1 2 dX5_lifeFloating_6 rfl rfl ?_
    obtain ⟨r2, σ1, e3, hF⟩ := bd_e hF
    refine r_callV_i (as := [vI v2]) (st := [vI v2]) C dX5_lifeFloating_7 (s_X5_lossFloating G l e3) rfl rfl rfl t_4_133 t_3_209 t_3_210 t_1_3 t_3_211 m_X5_lossFloating ⟨Nat.le_of_ble_eq_true rfl, Nat.le_of_ble_eq_true rfl⟩ ⟨rfl, rfl⟩ ⟨Nat.zero_le _, Nat.zero_le _⟩ rfl (Nat.le_of_ble_eq_true rfl) ?_
    refine r_isub C dX5_lifeFloating_10 ?_
    obtain ⟨x4, ex4, hF⟩ := nam_e hF
    refine r_topI ex4 ?_
    refine r_istore_n (ls2 := [(2, vI x4), (0, vR (3, q0, 0)), (3, vI v3)]) C dX5_lifeFloating_11 2 rfl (by decide) rfl ?_
    obtain ⟨x5, ex5, hF⟩ := nam_e hF
    refine r_iinc (v := x5) (ls2 := [(3, vI x5), (2, vI x4), (0, vR (3, q0, 0))]) C 2 dX5_lifeFloating_12 rfl ex5.symm (by decide) rfl ?_
    refine r_iload_n C 1 2 dX5_lifeFloating_15 rfl rfl ?_
    refine r_aload_n C 2 0 dX5_lifeFloating_16 rfl rfl ?_
    refine r_getR (kf := 0) (d2 := (4, q0, 0)) C dX5_lifeFloating_17 rfl rfl f_X5 (by decide) t_1_50 rfl rfl ?_
    refine r_iconst (v := (4 : Int32)) C dX5_lifeFloating_20 rfl ?_
    obtain ⟨h6, hF⟩ := ck_e hF
    refine r_iaload C 4 dX5_lifeFloating_21 rfl h6 rfl ?_
    refine r_icmp_le C 31 dX5_lifeFloating_22 (by decide)  (fun h8 => ?_) (fun h8 => ?_)
    · have hF := if_t h8 hF
      refine r_drop (ls2 := [(0, vR (3, q0, 0)), (3, vI x5)]) [2, 0] rfl ?_
      exact hkx31 _ _ hF
    · have hF := if_f h8 hF
      refine r_iload_n C 0 3 dX5_lifeFloating_25 rfl rfl ?_
      refine r_bipush (v := (60 : Int32)) C dX5_lifeFloating_26 rfl ?_
      refine r_icmp_lt C 4 dX5_lifeFloating_28 (by decide)  (fun h7 => ?_) (fun h7 => ?_)
      · have hF := if_t h7 hF
        refine r_drop (ls2 := [(0, vR (3, q0, 0)), (2, vI x4), (3, vI x5)]) [2, 1, 0] rfl ?_
        exact ih _ _ _ hF
      · have hF := if_f h7 hF
        refine r_drop (ls2 := [(0, vR (3, q0, 0)), (3, vI x5)]) [2, 0] rfl ?_
        exact hkx31 _ _ hF
set_option maxRecDepth 20000 in
set_option maxHeartbeats 4000000 in
theorem s_X5_lifeFloating (G : Gx) (l : Launch) {q0 : Nat} {a1 : Int32} {σ σ' : St} {r : Int32} (hF : F_X5_lifeFloating q0 a1 σ = some (r, σ')) : Sp G l yX5_lifeFloating cX5_lifeFloating 4 (some .int) (lvl 2) [vR (3, q0, 0), vI a1] σ (va_Qi (fun a b => a = r ∧ b = σ') (Wd G) (AG G)) := by
  refine Sp_of (own := RX5) (by decide) rfl (Nat.le_of_ble_eq_true rfl) ?_
  intro p e s m args below meth c C
  show Rt G p l e (lvl 2) s m args below meth c 0 0 (MQ below (va_Qi (fun a b => a = r ∧ b = σ') (Wd G) (AG G)) args s 0 0 (AG G)) 4 0 [(0, vR (3, q0, 0)), (1, vI a1)] [] σ
  unfold F_X5_lifeFloating at hF
  refine r_iload_n C 1 1 dX5_lifeFloating_0 rfl rfl ?_
  refine r_istore_n (ls2 := [(2, vI a1), (0, vR (3, q0, 0)), (1, vI a1)]) C dX5_lifeFloating_1 2 rfl (by decide) rfl ?_
  refine r_iconst (v := (0 : Int32)) C dX5_lifeFloating_2 rfl ?_
  refine r_istore_n (ls2 := [(3, vI (0 : Int32)), (2, vI a1), (0, vR (3, q0, 0)), (1, vI a1)]) C dX5_lifeFloating_3 3 rfl (by decide) rfl ?_
  refine r_drop (ls2 := [(0, vR (3, q0, 0)), (2, vI a1), (3, vI (0 : Int32))]) [2, 1, 0] rfl ?_
  refine l_X5_lifeFloating_4 C q0 _ ?_ _ _ _ _ hF
  · intro y10 σ9 hF
    refine r_iload_n C 1 3 dX5_lifeFloating_31 rfl rfl ?_
    refine r_iconst (v := (1 : Int32)) C dX5_lifeFloating_32 rfl ?_
    refine r_isub C dX5_lifeFloating_33 ?_
    refine r_aload_n C 0 0 dX5_lifeFloating_34 rfl rfl ?_
    refine r_getR (kf := 0) (d2 := (4, q0, 0)) C dX5_lifeFloating_35 rfl rfl f_X5 (by decide) t_1_50 rfl rfl ?_
    refine r_bipush (v := (7 : Int32)) C dX5_lifeFloating_38 rfl ?_
    obtain ⟨h11, hF⟩ := ck_e hF
    refine r_iaload C 7 dX5_lifeFloating_40 rfl h11 rfl ?_
    refine r_imul C dX5_lifeFloating_41 ?_
    refine r_iconst (v := (1 : Int32)) C dX5_lifeFloating_42 rfl ?_
    refine r_iadd C dX5_lifeFloating_43 ?_
    exact r_ireturn C dX5_lifeFloating_44 (rt_e hF)
def F_X5_lifeBy (q0 : Nat) (a1 : Int32) (a2 : Int32) (a3 : Int32) (σ : St) : Option (Int32 × St) :=
  (if a3 = 0 then bd (F_X5_lifeTouching q0 a1 a2 σ) fun r2 σ1 => some (r2, σ1) else bd (F_X5_lifeFloating q0 a1 σ) fun r5 σ4 => some (r5, σ4))
set_option maxRecDepth 20000 in
set_option maxHeartbeats 4000000 in
theorem s_X5_lifeBy (G : Gx) (l : Launch) {q0 : Nat} {a1 : Int32} {a2 : Int32} {a3 : Int32} {σ σ' : St} {r : Int32} (hF : F_X5_lifeBy q0 a1 a2 a3 σ = some (r, σ')) : Sp G l yX5_lifeBy cX5_lifeBy 4 (some .int) (lvl 3) [vR (3, q0, 0), vI a1, vI a2, vI a3] σ (va_Qi (fun a b => a = r ∧ b = σ') (Wd G) (AG G)) := by
  refine Sp_of (own := RX5) (by decide) rfl (Nat.le_of_ble_eq_true rfl) ?_
  intro p e s m args below meth c C
  show Rt G p l e (lvl 3) s m args below meth c 0 0 (MQ below (va_Qi (fun a b => a = r ∧ b = σ') (Wd G) (AG G)) args s 0 0 (AG G)) 4 0 [(0, vR (3, q0, 0)), (1, vI a1), (2, vI a2), (3, vI a3)] [] σ
  unfold F_X5_lifeBy at hF
  refine r_iload_n C 3 3 dX5_lifeBy_0 rfl rfl ?_
  refine r_if_eq C 12 dX5_lifeBy_1 (by decide)  (fun h7 => ?_) (fun h7 => ?_)
  · have hF := if_t h7 hF
    refine r_aload_n C 0 0 dX5_lifeBy_12 rfl rfl ?_
    refine r_iload_n C 1 1 dX5_lifeBy_13 rfl rfl ?_
    refine r_iload_n C 2 2 dX5_lifeBy_14 rfl rfl ?_
    obtain ⟨r2, σ1, e3, hF⟩ := bd_e hF
    refine r_callV_i (as := [vI a1, vI a2]) (st := []) C dX5_lifeBy_15 (s_X5_lifeTouching G l e3) rfl rfl rfl t_4_134 t_4_136 t_s_17 t_1_3 t_4_137 m_X5_lifeTouching ⟨Nat.le_of_ble_eq_true rfl, Nat.le_of_ble_eq_true rfl⟩ ⟨rfl, rfl⟩ ⟨Nat.zero_le _, Nat.zero_le _⟩ rfl (Nat.le_of_ble_eq_true rfl) ?_
    exact r_ireturn C dX5_lifeBy_18 (rt_e hF)
  · have hF := if_f h7 hF
    refine r_aload_n C 0 0 dX5_lifeBy_4 rfl rfl ?_
    refine r_iload_n C 1 1 dX5_lifeBy_5 rfl rfl ?_
    obtain ⟨r5, σ4, e6, hF⟩ := bd_e hF
    refine r_callV_i (as := [vI a1]) (st := []) C dX5_lifeBy_6 (s_X5_lifeFloating G l e6) rfl rfl rfl t_4_129 t_4_131 t_s_16 t_1_3 t_4_132 m_X5_lifeFloating ⟨Nat.le_of_ble_eq_true rfl, Nat.le_of_ble_eq_true rfl⟩ ⟨rfl, rfl⟩ ⟨Nat.zero_le _, Nat.zero_le _⟩ rfl (Nat.le_of_ble_eq_true rfl) ?_
    refine r_goto C 18 dX5_lifeBy_9 (by decide) ?_
    exact r_ireturn C dX5_lifeBy_18 (rt_e hF)
def F_X5_lifeOf (q0 : Nat) (a1 : Int32) (a2 : Int32) (a3 : Int32) (σ : St) : Option (Int32 × St) :=
  bd (F_X5_floatsAt q0 a2 a3 σ) fun r2 σ1 => bd (F_X5_lifeBy q0 a1 a2 r2 σ1) fun r5 σ4 => some (r5, σ4)
set_option maxRecDepth 20000 in
set_option maxHeartbeats 4000000 in
theorem s_X5_lifeOf (G : Gx) (l : Launch) {q0 : Nat} {a1 : Int32} {a2 : Int32} {a3 : Int32} {σ σ' : St} {r : Int32} (hF : F_X5_lifeOf q0 a1 a2 a3 σ = some (r, σ')) : Sp G l yX5_lifeOf cX5_lifeOf 4 (some .int) (lvl 4) [vR (3, q0, 0), vI a1, vI a2, vI a3] σ (va_Qi (fun a b => a = r ∧ b = σ') (Wd G) (AG G)) := by
  refine Sp_of (own := RX5) (by decide) rfl (Nat.le_of_ble_eq_true rfl) ?_
  intro p e s m args below meth c C
  show Rt G p l e (lvl 4) s m args below meth c 0 0 (MQ below (va_Qi (fun a b => a = r ∧ b = σ') (Wd G) (AG G)) args s 0 0 (AG G)) 4 0 [(0, vR (3, q0, 0)), (1, vI a1), (2, vI a2), (3, vI a3)] [] σ
  unfold F_X5_lifeOf at hF
  refine r_aload_n C 0 0 dX5_lifeOf_0 rfl rfl ?_
  refine r_iload_n C 1 1 dX5_lifeOf_1 rfl rfl ?_
  refine r_iload_n C 2 2 dX5_lifeOf_2 rfl rfl ?_
  refine r_aload_n C 0 0 dX5_lifeOf_3 rfl rfl ?_
  refine r_iload_n C 2 2 dX5_lifeOf_4 rfl rfl ?_
  refine r_iload_n C 3 3 dX5_lifeOf_5 rfl rfl ?_
  obtain ⟨r2, σ1, e3, hF⟩ := bd_e hF
  refine r_callV_i (as := [vI a2, vI a3]) (st := [vI a2, vI a1, vR (3, q0, 0)]) C dX5_lifeOf_6 (s_X5_floatsAt G l e3) rfl rfl rfl t_4_124 t_3_143 t_3_144 t_1_3 t_3_145 m_X5_floatsAt ⟨Nat.le_of_ble_eq_true rfl, Nat.le_of_ble_eq_true rfl⟩ ⟨rfl, rfl⟩ ⟨Nat.zero_le _, Nat.zero_le _⟩ rfl (Nat.le_of_ble_eq_true rfl) ?_
  obtain ⟨r5, σ4, e6, hF⟩ := bd_e hF
  refine r_callV_i (as := [vI a1, vI a2, vI r2]) (st := []) C dX5_lifeOf_9 (s_X5_lifeBy G l e6) rfl rfl rfl t_4_125 t_4_126 t_4_127 t_1_3 t_4_128 m_X5_lifeBy ⟨Nat.le_of_ble_eq_true rfl, Nat.le_of_ble_eq_true rfl⟩ ⟨rfl, rfl⟩ ⟨Nat.zero_le _, Nat.zero_le _⟩ rfl (Nat.le_of_ble_eq_true rfl) ?_
  exact r_ireturn C dX5_lifeOf_12 (rt_e hF)
def F_X10_life (a1 : Int32) (a2 : Int32) (a3 : Int32) (σ : St) : Option (Int32 × St) :=
  bd (F_X10_isSize a1 σ) fun r2 σ1 => (if r2 = 0 then some ((-1 : Int32), σ1) else bd (F_X10_isHeat a2 σ1) fun r5 σ4 => (if r5 = 0 then some ((-1 : Int32), σ4) else bd (F_X5_lifeOf 0 a1 a2 a3 σ4) fun r8 σ7 => some (r8, σ7)))
set_option maxRecDepth 20000 in
set_option maxHeartbeats 4000000 in
theorem s_X10_life (G : Gx) (l : Launch) {a1 : Int32} {a2 : Int32} {a3 : Int32} {σ σ' : St} {r : Int32} (hF : F_X10_life a1 a2 a3 σ = some (r, σ')) : Sp G l yX10_life cX10_life 4 (some .int) (lvl 5) [vR (0, 0, 0), vI a1, vI a2, vI a3] σ (va_Qi (fun a b => a = r ∧ b = σ') (Wd G) (AG G)) := by
  refine Sp_of (own := RX10) (by decide) rfl (Nat.le_of_ble_eq_true rfl) ?_
  intro p e s m args below meth c C
  show Rt G p l e (lvl 5) s m args below meth c 0 0 (MQ below (va_Qi (fun a b => a = r ∧ b = σ') (Wd G) (AG G)) args s 0 0 (AG G)) 4 0 [(0, vR (0, 0, 0)), (1, vI a1), (2, vI a2), (3, vI a3)] [] σ
  unfold F_X10_life at hF
  refine r_iload_n C 1 1 dX10_life_0 rfl rfl ?_
  obtain ⟨r2, σ1, e3, hF⟩ := bd_e hF
  refine r_callS_i (as := [vI a1]) (st := []) C dX10_life_1 (s_X10_isSize G l e3) t_3_157 t_3_158 t_1_1 t_3_159 m_X10_isSize ⟨Nat.le_of_ble_eq_true rfl, Nat.le_of_ble_eq_true rfl⟩ ⟨rfl, rfl⟩ ⟨Nat.zero_le _, Nat.zero_le _⟩ rfl (Nat.le_of_ble_eq_true rfl) ?_
  refine r_if_eq C 27 dX10_life_4 (by decide)  (fun h11 => ?_) (fun h11 => ?_)
  · have hF := if_t h11 hF
    refine r_iconst (v := (-1 : Int32)) C dX10_life_27 rfl ?_
    exact r_ireturn C dX10_life_28 (rt_e hF)
  · have hF := if_f h11 hF
    refine r_iload_n C 2 2 dX10_life_7 rfl rfl ?_
    obtain ⟨r5, σ4, e6, hF⟩ := bd_e hF
    refine r_callS_i (as := [vI a2]) (st := []) C dX10_life_8 (s_X10_isHeat G l e6) t_3_139 t_3_140 t_1_1 t_3_141 m_X10_isHeat ⟨Nat.le_of_ble_eq_true rfl, Nat.le_of_ble_eq_true rfl⟩ ⟨rfl, rfl⟩ ⟨Nat.zero_le _, Nat.zero_le _⟩ rfl (Nat.le_of_ble_eq_true rfl) ?_
    refine r_if_eq C 27 dX10_life_11 (by decide)  (fun h10 => ?_) (fun h10 => ?_)
    · have hF := if_t h10 hF
      refine r_iconst (v := (-1 : Int32)) C dX10_life_27 rfl ?_
      exact r_ireturn C dX10_life_28 (rt_e hF)
    · have hF := if_f h10 hF
      refine r_aload_n C 0 0 dX10_life_14 rfl rfl ?_
      refine r_getR (kf := 4) (d2 := (3, 0, 0)) C dX10_life_15 rfl rfl f_X10 (by decide) t_2_99 rfl rfl ?_
      refine r_iload_n C 1 1 dX10_life_18 rfl rfl ?_
      refine r_iload_n C 2 2 dX10_life_19 rfl rfl ?_
      refine r_iload_n C 3 3 dX10_life_20 rfl rfl ?_
      obtain ⟨r8, σ7, e9, hF⟩ := bd_e hF
      refine r_callV_i (as := [vI a1, vI a2, vI a3]) (st := []) C dX10_life_21 (s_X5_lifeOf G l e9) rfl rfl rfl t_4_120 t_4_121 t_4_122 t_1_3 t_4_123 m_X5_lifeOf ⟨Nat.le_of_ble_eq_true rfl, Nat.le_of_ble_eq_true rfl⟩ ⟨rfl, rfl⟩ ⟨Nat.zero_le _, Nat.zero_le _⟩ rfl (Nat.le_of_ble_eq_true rfl) ?_
      refine r_goto C 28 dX10_life_24 (by decide) ?_
      exact r_ireturn C dX10_life_28 (rt_e hF)
def L_X5_longestHeat_5 (q0 : Nat) (c1 : Int32) (c2 : Int32) : Nat → Int32 → Int32 → St → Option (Int32 × St)
  | 0, _, _, _ => none
  | n + 1, v3, v4, τ =>
  (if (99 : Int32) < v4 then some (v3, τ) else bd (F_X5_lifeOf q0 c1 v4 c2 τ) fun r2 σ1 => bd (F_X5_lifeOf q0 c1 v3 c2 σ1) fun r5 σ4 => nam (fun (y7 : Int32) (σ9 : St) => nam (v4 + (1 : Int32)) fun x10 => L_X5_longestHeat_5 q0 c1 c2 n y7 x10 σ9) fun k8 => (if r2 ≤ r5 then k8 v3 σ4 else k8 v4 σ4))
def F_X5_longestHeat (q0 : Nat) (a1 : Int32) (a2 : Int32) (σ : St) : Option (Int32 × St) :=
  L_X5_longestHeat_5 q0 a1 a2 FU (0 : Int32) (1 : Int32) σ 
set_option maxRecDepth 20000 in
set_option maxHeartbeats 4000000 in
theorem l_X5_longestHeat_5 {G : Gx} {p : Program} {l : Launch} {e : Env} {s : State} {m : MethodId} {args : Array Value} {below : List Frame} {meth : Method} {c : Code} (C : Cx G p s m args meth c (some .int) 5 RX5 cX5_longestHeat) (q0 : Nat) (c1 : Int32) (c2 : Int32) {σ' : St} {r : Int32} : ∀ (n : Nat) (v3 : Int32) (v4 : Int32) (τ : St), L_X5_longestHeat_5 q0 c1 c2 n v3 v4 τ = some (r, σ') → Rt G p l e (lvl 5) s m args below meth c 0 0 (MQ below (va_Qi (fun a b => a = r ∧ b = σ') (Wd G) (AG G)) args s 0 0 (AG G)) 5 5 [(0, vR (3, q0, 0)), (1, vI c1), (2, vI c2), (3, vI v3), (4, vI v4)] [] τ := by
  intro n
  induction n with
  | zero => intro v3 v4 τ hF; cases hF
  | succ n ih =>
    intro v3 v4 τ hF
    unfold L_X5_longestHeat_5 at hF
    refine r_iload C 4 dX5_longestHeat_5 rfl ?_
    refine r_bipush (v := (99 : Int32)) C dX5_longestHeat_7 rfl ?_
    refine r_icmp_gt C 39 dX5_longestHeat_9 (by decide)  (fun h12 => ?_) (fun h12 => ?_)
    · have hF := if_t h12 hF
      refine r_iload_n C 3 3 dX5_longestHeat_39 rfl rfl ?_
      exact r_ireturn C dX5_longestHeat_40 (rt_e hF)
    · have hF := if_f h12 hF
      refine r_aload_n C 0 0 dX5_longestHeat_12 rfl rfl ?_
      refine r_iload_n C 1 1 dX5_longestHeat_13 rfl rfl ?_
      refine r_iload C 4 dX5_longestHeat_14 rfl ?_
      refine r_iload_n C 2 2 dX5_longestHeat_16 rfl rfl ?_
      obtain ⟨r2, σ1, e3, hF⟩ := bd_e hF
      refine r_callV_i (as := [vI c1, vI v4, vI c2]) (st := []) C dX5_longestHeat_17 (s_X5_lifeOf G l e3) rfl rfl rfl t_4_147 t_4_121 t_4_122 t_1_3 t_4_123 m_X5_lifeOf ⟨Nat.le_of_ble_eq_true rfl, Nat.le_of_ble_eq_true rfl⟩ ⟨rfl, rfl⟩ ⟨Nat.zero_le _, Nat.zero_le _⟩ rfl (Nat.le_of_ble_eq_true rfl) ?_
      refine r_aload_n C 0 0 dX5_longestHeat_20 rfl rfl ?_
      refine r_iload_n C 1 1 dX5_longestHeat_21 rfl rfl ?_
      refine r_iload_n C 3 3 dX5_longestHeat_22 rfl rfl ?_
      refine r_iload_n C 2 2 dX5_longestHeat_23 rfl rfl ?_
      obtain ⟨r5, σ4, e6, hF⟩ := bd_e hF
      refine r_callV_i (as := [vI c1, vI v3, vI c2]) (st := [vI r2]) C dX5_longestHeat_24 (s_X5_lifeOf G l e6) rfl rfl rfl t_4_147 t_4_121 t_4_122 t_1_3 t_4_123 m_X5_lifeOf ⟨Nat.le_of_ble_eq_true rfl, Nat.le_of_ble_eq_true rfl⟩ ⟨rfl, rfl⟩ ⟨Nat.zero_le _, Nat.zero_le _⟩ rfl (Nat.le_of_ble_eq_true rfl) ?_
      obtain ⟨k8, ek8, hF⟩ := nam_e hF
      have hk8 : ∀ (y7 : Int32) (σ9 : St), k8 y7 σ9 = some (r, σ') → Rt G p l e (lvl 5) s m args below meth c 0 0 (MQ below (va_Qi (fun a b => a = r ∧ b = σ') (Wd G) (AG G)) args s 0 0 (AG G)) 5 33 [(0, vR (3, q0, 0)), (1, vI c1), (2, vI c2), (3, vI y7), (4, vI v4)] [] σ9 := by
        intro y7 σ9 hF
        subst ek8
        obtain ⟨x10, ex10, hF⟩ := nam_e hF
        refine r_iinc (v := x10) (ls2 := [(4, vI x10), (0, vR (3, q0, 0)), (1, vI c1), (2, vI c2), (3, vI y7)]) C 4 dX5_longestHeat_33 rfl ex10.symm (by decide) rfl ?_
        refine r_goto C 5 dX5_longestHeat_36 (by decide) ?_
        refine r_drop (ls2 := [(0, vR (3, q0, 0)), (1, vI c1), (2, vI c2), (3, vI y7), (4, vI x10)]) [1, 2, 3, 4, 0] rfl ?_
        exact ih _ _ _ hF
      refine r_icmp_le C 33 dX5_longestHeat_27 (by decide)  (fun h11 => ?_) (fun h11 => ?_)
      · have hF := if_t h11 hF
        exact hk8 _ _ hF
      · have hF := if_f h11 hF
        refine r_iload C 4 dX5_longestHeat_30 rfl ?_
        refine r_istore_n (ls2 := [(3, vI v4), (0, vR (3, q0, 0)), (1, vI c1), (2, vI c2), (4, vI v4)]) C dX5_longestHeat_32 3 rfl (by decide) rfl ?_
        refine r_drop (ls2 := [(0, vR (3, q0, 0)), (1, vI c1), (2, vI c2), (3, vI v4), (4, vI v4)]) [1, 2, 3, 0, 4] rfl ?_
        exact hk8 _ _ hF
set_option maxRecDepth 20000 in
set_option maxHeartbeats 4000000 in
theorem s_X5_longestHeat (G : Gx) (l : Launch) {q0 : Nat} {a1 : Int32} {a2 : Int32} {σ σ' : St} {r : Int32} (hF : F_X5_longestHeat q0 a1 a2 σ = some (r, σ')) : Sp G l yX5_longestHeat cX5_longestHeat 5 (some .int) (lvl 5) [vR (3, q0, 0), vI a1, vI a2] σ (va_Qi (fun a b => a = r ∧ b = σ') (Wd G) (AG G)) := by
  refine Sp_of (own := RX5) (by decide) rfl (Nat.le_of_ble_eq_true rfl) ?_
  intro p e s m args below meth c C
  show Rt G p l e (lvl 5) s m args below meth c 0 0 (MQ below (va_Qi (fun a b => a = r ∧ b = σ') (Wd G) (AG G)) args s 0 0 (AG G)) 5 0 [(0, vR (3, q0, 0)), (1, vI a1), (2, vI a2)] [] σ
  unfold F_X5_longestHeat at hF
  refine r_iconst (v := (0 : Int32)) C dX5_longestHeat_0 rfl ?_
  refine r_istore_n (ls2 := [(3, vI (0 : Int32)), (0, vR (3, q0, 0)), (1, vI a1), (2, vI a2)]) C dX5_longestHeat_1 3 rfl (by decide) rfl ?_
  refine r_iconst (v := (1 : Int32)) C dX5_longestHeat_2 rfl ?_
  refine r_istore (ls2 := [(4, vI (1 : Int32)), (3, vI (0 : Int32)), (0, vR (3, q0, 0)), (1, vI a1), (2, vI a2)]) C dX5_longestHeat_3 (by decide) rfl ?_
  refine r_drop (ls2 := [(0, vR (3, q0, 0)), (1, vI a1), (2, vI a2), (3, vI (0 : Int32)), (4, vI (1 : Int32))]) [2, 3, 4, 1, 0] rfl ?_
  refine l_X5_longestHeat_5 C q0 a1 a2  _ _ _ _ hF
def L_X5_shortestLife_11 (q0 : Nat) (c1 : Int32) (c2 : Int32) : Nat → Int32 → Int32 → St → Option (Int32 × St)
  | 0, _, _, _ => none
  | n + 1, v3, v4, τ =>
  (if (99 : Int32) < v4 then some (v3, τ) else bd (F_X5_lifeOf q0 c1 v4 c2 τ) fun r5 σ4 => nam (if r5 < v3 then r5 else v3) fun x7 => nam (v4 + (1 : Int32)) fun x8 => L_X5_shortestLife_11 q0 c1 c2 n x7 x8 σ4)
def F_X5_shortestLife (q0 : Nat) (a1 : Int32) (a2 : Int32) (σ : St) : Option (Int32 × St) :=
  bd (F_X5_lifeOf q0 a1 (1 : Int32) a2 σ) fun r2 σ1 => L_X5_shortestLife_11 q0 a1 a2 FU r2 (2 : Int32) σ1 
set_option maxRecDepth 20000 in
set_option maxHeartbeats 4000000 in
theorem l_X5_shortestLife_11 {G : Gx} {p : Program} {l : Launch} {e : Env} {s : State} {m : MethodId} {args : Array Value} {below : List Frame} {meth : Method} {c : Code} (C : Cx G p s m args meth c (some .int) 5 RX5 cX5_shortestLife) (q0 : Nat) (c1 : Int32) (c2 : Int32) {σ' : St} {r : Int32} : ∀ (n : Nat) (v3 : Int32) (v4 : Int32) (τ : St), L_X5_shortestLife_11 q0 c1 c2 n v3 v4 τ = some (r, σ') → Rt G p l e (lvl 5) s m args below meth c 0 0 (MQ below (va_Qi (fun a b => a = r ∧ b = σ') (Wd G) (AG G)) args s 0 0 (AG G)) 5 11 [(0, vR (3, q0, 0)), (1, vI c1), (2, vI c2), (3, vI v3), (4, vI v4)] [] τ := by
  intro n
  induction n with
  | zero => intro v3 v4 τ hF; cases hF
  | succ n ih =>
    intro v3 v4 τ hF
    unfold L_X5_shortestLife_11 at hF
    refine r_iload C 4 dX5_shortestLife_11 rfl ?_
    refine r_bipush (v := (99 : Int32)) C dX5_shortestLife_13 rfl ?_
    refine r_icmp_gt C 37 dX5_shortestLife_15 (by decide)  (fun h9 => ?_) (fun h9 => ?_)
    · have hF := if_t h9 hF
      refine r_iload_n C 3 3 dX5_shortestLife_37 rfl rfl ?_
      exact r_ireturn C dX5_shortestLife_38 (rt_e hF)
    · have hF := if_f h9 hF
      refine r_iload_n C 3 3 dX5_shortestLife_18 rfl rfl ?_
      refine r_aload_n C 0 0 dX5_shortestLife_19 rfl rfl ?_
      refine r_iload_n C 1 1 dX5_shortestLife_20 rfl rfl ?_
      refine r_iload C 4 dX5_shortestLife_21 rfl ?_
      refine r_iload_n C 2 2 dX5_shortestLife_23 rfl rfl ?_
      obtain ⟨r5, σ4, e6, hF⟩ := bd_e hF
      refine r_callV_i (as := [vI c1, vI v4, vI c2]) (st := [vI v3]) C dX5_shortestLife_24 (s_X5_lifeOf G l e6) rfl rfl rfl t_4_147 t_4_121 t_4_122 t_1_3 t_4_123 m_X5_lifeOf ⟨Nat.le_of_ble_eq_true rfl, Nat.le_of_ble_eq_true rfl⟩ ⟨rfl, rfl⟩ ⟨Nat.zero_le _, Nat.zero_le _⟩ rfl (Nat.le_of_ble_eq_true rfl) ?_
      refine r_min C dX5_shortestLife_27 t_4_152 t_2_159 t_1_15 t_2_160 ⟨Nat.le_of_ble_eq_true rfl, Nat.le_of_ble_eq_true rfl⟩ ⟨Nat.zero_le _, Nat.zero_le _⟩ ?_
      obtain ⟨x7, ex7, hF⟩ := nam_e hF
      refine r_topI ex7 ?_
      refine r_istore_n (ls2 := [(3, vI x7), (0, vR (3, q0, 0)), (1, vI c1), (2, vI c2), (4, vI v4)]) C dX5_shortestLife_30 3 rfl (by decide) rfl ?_
      obtain ⟨x8, ex8, hF⟩ := nam_e hF
      refine r_iinc (v := x8) (ls2 := [(4, vI x8), (3, vI x7), (0, vR (3, q0, 0)), (1, vI c1), (2, vI c2)]) C 4 dX5_shortestLife_31 rfl ex8.symm (by decide) rfl ?_
      refine r_goto C 11 dX5_shortestLife_34 (by decide) ?_
      refine r_drop (ls2 := [(0, vR (3, q0, 0)), (1, vI c1), (2, vI c2), (3, vI x7), (4, vI x8)]) [2, 3, 4, 1, 0] rfl ?_
      exact ih _ _ _ hF
set_option maxRecDepth 20000 in
set_option maxHeartbeats 4000000 in
theorem s_X5_shortestLife (G : Gx) (l : Launch) {q0 : Nat} {a1 : Int32} {a2 : Int32} {σ σ' : St} {r : Int32} (hF : F_X5_shortestLife q0 a1 a2 σ = some (r, σ')) : Sp G l yX5_shortestLife cX5_shortestLife 5 (some .int) (lvl 5) [vR (3, q0, 0), vI a1, vI a2] σ (va_Qi (fun a b => a = r ∧ b = σ') (Wd G) (AG G)) := by
  refine Sp_of (own := RX5) (by decide) rfl (Nat.le_of_ble_eq_true rfl) ?_
  intro p e s m args below meth c C
  show Rt G p l e (lvl 5) s m args below meth c 0 0 (MQ below (va_Qi (fun a b => a = r ∧ b = σ') (Wd G) (AG G)) args s 0 0 (AG G)) 5 0 [(0, vR (3, q0, 0)), (1, vI a1), (2, vI a2)] [] σ
  unfold F_X5_shortestLife at hF
  refine r_aload_n C 0 0 dX5_shortestLife_0 rfl rfl ?_
  refine r_iload_n C 1 1 dX5_shortestLife_1 rfl rfl ?_
  refine r_iconst (v := (1 : Int32)) C dX5_shortestLife_2 rfl ?_
  refine r_iload_n C 2 2 dX5_shortestLife_3 rfl rfl ?_
  obtain ⟨r2, σ1, e3, hF⟩ := bd_e hF
  refine r_callV_i (as := [vI a1, vI (1 : Int32), vI a2]) (st := []) C dX5_shortestLife_4 (s_X5_lifeOf G l e3) rfl rfl rfl t_4_147 t_4_121 t_4_122 t_1_3 t_4_123 m_X5_lifeOf ⟨Nat.le_of_ble_eq_true rfl, Nat.le_of_ble_eq_true rfl⟩ ⟨rfl, rfl⟩ ⟨Nat.zero_le _, Nat.zero_le _⟩ rfl (Nat.le_of_ble_eq_true rfl) ?_
  refine r_istore_n (ls2 := [(3, vI r2), (0, vR (3, q0, 0)), (1, vI a1), (2, vI a2)]) C dX5_shortestLife_7 3 rfl (by decide) rfl ?_
  refine r_iconst (v := (2 : Int32)) C dX5_shortestLife_8 rfl ?_
  refine r_istore (ls2 := [(4, vI (2 : Int32)), (3, vI r2), (0, vR (3, q0, 0)), (1, vI a1), (2, vI a2)]) C dX5_shortestLife_9 (by decide) rfl ?_
  refine r_drop (ls2 := [(0, vR (3, q0, 0)), (1, vI a1), (2, vI a2), (3, vI r2), (4, vI (2 : Int32))]) [2, 3, 4, 1, 0] rfl ?_
  refine l_X5_shortestLife_11 C q0 a1 a2  _ _ _ _ hF
def L_X5_firstLonger_2 (q0 : Nat) (c1 : Int32) (c2 : Int32) : Nat → Int32 → St → Option (Int32 × St)
  | 0, _, _ => none
  | n + 1, v3, τ =>
  (if (99 : Int32) < v3 then some ((-4 : Int32), τ) else bd (F_X5_lifeOf q0 c1 v3 c2 τ) fun r2 σ1 => bd (F_X5_lifeOf q0 c1 (v3 - (1 : Int32)) c2 σ1) fun r5 σ4 => (if r2 ≤ r5 then nam (v3 + (1 : Int32)) fun x7 => L_X5_firstLonger_2 q0 c1 c2 n x7 σ4 else some (v3, σ4)))
def F_X5_firstLonger (q0 : Nat) (a1 : Int32) (a2 : Int32) (σ : St) : Option (Int32 × St) :=
  L_X5_firstLonger_2 q0 a1 a2 FU (1 : Int32) σ 
set_option maxRecDepth 20000 in
set_option maxHeartbeats 4000000 in
theorem l_X5_firstLonger_2 {G : Gx} {p : Program} {l : Launch} {e : Env} {s : State} {m : MethodId} {args : Array Value} {below : List Frame} {meth : Method} {c : Code} (C : Cx G p s m args meth c (some .int) 4 RX5 cX5_firstLonger) (q0 : Nat) (c1 : Int32) (c2 : Int32) {σ' : St} {r : Int32} : ∀ (n : Nat) (v3 : Int32) (τ : St), L_X5_firstLonger_2 q0 c1 c2 n v3 τ = some (r, σ') → Rt G p l e (lvl 5) s m args below meth c 0 0 (MQ below (va_Qi (fun a b => a = r ∧ b = σ') (Wd G) (AG G)) args s 0 0 (AG G)) 4 2 [(0, vR (3, q0, 0)), (1, vI c1), (2, vI c2), (3, vI v3)] [] τ := by
  intro n
  induction n with
  | zero => intro v3 τ hF; cases hF
  | succ n ih =>
    intro v3 τ hF
    unfold L_X5_firstLonger_2 at hF
    refine r_iload_n C 3 3 dX5_firstLonger_2 rfl rfl ?_
    refine r_bipush (v := (99 : Int32)) C dX5_firstLonger_3 rfl ?_
    refine r_icmp_gt C 35 dX5_firstLonger_5 (by decide)  (fun h9 => ?_) (fun h9 => ?_)
    · have hF := if_t h9 hF
      refine r_bipush (v := (-4 : Int32)) C dX5_firstLonger_35 rfl ?_
      exact r_ireturn C dX5_firstLonger_37 (rt_e hF)
    · have hF := if_f h9 hF
      refine r_aload_n C 0 0 dX5_firstLonger_8 rfl rfl ?_
      refine r_iload_n C 1 1 dX5_firstLonger_9 rfl rfl ?_
      refine r_iload_n C 3 3 dX5_firstLonger_10 rfl rfl ?_
      refine r_iload_n C 2 2 dX5_firstLonger_11 rfl rfl ?_
      obtain ⟨r2, σ1, e3, hF⟩ := bd_e hF
      refine r_callV_i (as := [vI c1, vI v3, vI c2]) (st := []) C dX5_firstLonger_12 (s_X5_lifeOf G l e3) rfl rfl rfl t_4_147 t_4_121 t_4_122 t_1_3 t_4_123 m_X5_lifeOf ⟨Nat.le_of_ble_eq_true rfl, Nat.le_of_ble_eq_true rfl⟩ ⟨rfl, rfl⟩ ⟨Nat.zero_le _, Nat.zero_le _⟩ rfl (Nat.le_of_ble_eq_true rfl) ?_
      refine r_aload_n C 0 0 dX5_firstLonger_15 rfl rfl ?_
      refine r_iload_n C 1 1 dX5_firstLonger_16 rfl rfl ?_
      refine r_iload_n C 3 3 dX5_firstLonger_17 rfl rfl ?_
      refine r_iconst (v := (1 : Int32)) C dX5_firstLonger_18 rfl ?_
      refine r_isub C dX5_firstLonger_19 ?_
      refine r_iload_n C 2 2 dX5_firstLonger_20 rfl rfl ?_
      obtain ⟨r5, σ4, e6, hF⟩ := bd_e hF
      refine r_callV_i (as := [vI c1, vI (v3 - (1 : Int32)), vI c2]) (st := [vI r2]) C dX5_firstLonger_21 (s_X5_lifeOf G l e6) rfl rfl rfl t_4_147 t_4_121 t_4_122 t_1_3 t_4_123 m_X5_lifeOf ⟨Nat.le_of_ble_eq_true rfl, Nat.le_of_ble_eq_true rfl⟩ ⟨rfl, rfl⟩ ⟨Nat.zero_le _, Nat.zero_le _⟩ rfl (Nat.le_of_ble_eq_true rfl) ?_
      refine r_icmp_le C 29 dX5_firstLonger_24 (by decide)  (fun h8 => ?_) (fun h8 => ?_)
      · have hF := if_t h8 hF
        obtain ⟨x7, ex7, hF⟩ := nam_e hF
        refine r_iinc (v := x7) (ls2 := [(3, vI x7), (0, vR (3, q0, 0)), (1, vI c1), (2, vI c2)]) C 3 dX5_firstLonger_29 rfl ex7.symm (by decide) rfl ?_
        refine r_goto C 2 dX5_firstLonger_32 (by decide) ?_
        refine r_drop (ls2 := [(0, vR (3, q0, 0)), (1, vI c1), (2, vI c2), (3, vI x7)]) [1, 2, 3, 0] rfl ?_
        exact ih _ _ hF
      · have hF := if_f h8 hF
        refine r_iload_n C 3 3 dX5_firstLonger_27 rfl rfl ?_
        exact r_ireturn C dX5_firstLonger_28 (rt_e hF)
set_option maxRecDepth 20000 in
set_option maxHeartbeats 4000000 in
theorem s_X5_firstLonger (G : Gx) (l : Launch) {q0 : Nat} {a1 : Int32} {a2 : Int32} {σ σ' : St} {r : Int32} (hF : F_X5_firstLonger q0 a1 a2 σ = some (r, σ')) : Sp G l yX5_firstLonger cX5_firstLonger 4 (some .int) (lvl 5) [vR (3, q0, 0), vI a1, vI a2] σ (va_Qi (fun a b => a = r ∧ b = σ') (Wd G) (AG G)) := by
  refine Sp_of (own := RX5) (by decide) rfl (Nat.le_of_ble_eq_true rfl) ?_
  intro p e s m args below meth c C
  show Rt G p l e (lvl 5) s m args below meth c 0 0 (MQ below (va_Qi (fun a b => a = r ∧ b = σ') (Wd G) (AG G)) args s 0 0 (AG G)) 4 0 [(0, vR (3, q0, 0)), (1, vI a1), (2, vI a2)] [] σ
  unfold F_X5_firstLonger at hF
  refine r_iconst (v := (1 : Int32)) C dX5_firstLonger_0 rfl ?_
  refine r_istore_n (ls2 := [(3, vI (1 : Int32)), (0, vR (3, q0, 0)), (1, vI a1), (2, vI a2)]) C dX5_firstLonger_1 3 rfl (by decide) rfl ?_
  refine r_drop (ls2 := [(0, vR (3, q0, 0)), (1, vI a1), (2, vI a2), (3, vI (1 : Int32))]) [1, 2, 3, 0] rfl ?_
  refine l_X5_firstLonger_2 C q0 a1 a2  _ _ _ hF
def F_X10_hump (a1 : Int32) (a2 : Int32) (a3 : Int32) (σ : St) : Option (Int32 × St) :=
  bd (F_X10_isSize a1 σ) fun r2 σ1 => (if r2 = 0 then some ((-1 : Int32), σ1) else (if a3 = (0 : Int32) then bd (F_X5_longestHeat 0 a1 a2 σ1) fun r6 σ5 => some (r6, σ5) else (if a3 = (1 : Int32) then bd (F_X5_longestHeat 0 a1 a2 σ1) fun r10 σ9 => bd (F_X5_lifeOf 0 a1 r10 a2 σ9) fun r13 σ12 => some (r13, σ12) else (if a3 = (2 : Int32) then bd (F_X5_shortestLife 0 a1 a2 σ1) fun r17 σ16 => some (r17, σ16) else (if a3 = (3 : Int32) then bd (F_X5_firstLonger 0 a1 a2 σ1) fun r21 σ20 => some (r21, σ20) else some ((-1 : Int32), σ1))))))
set_option maxRecDepth 20000 in
set_option maxHeartbeats 4000000 in
theorem s_X10_hump (G : Gx) (l : Launch) {a1 : Int32} {a2 : Int32} {a3 : Int32} {σ σ' : St} {r : Int32} (hF : F_X10_hump a1 a2 a3 σ = some (r, σ')) : Sp G l yX10_hump cX10_hump 4 (some .int) (lvl 6) [vR (0, 0, 0), vI a1, vI a2, vI a3] σ (va_Qi (fun a b => a = r ∧ b = σ') (Wd G) (AG G)) := by
  refine Sp_of (own := RX10) (by decide) rfl (Nat.le_of_ble_eq_true rfl) ?_
  intro p e s m args below meth c C
  show Rt G p l e (lvl 6) s m args below meth c 0 0 (MQ below (va_Qi (fun a b => a = r ∧ b = σ') (Wd G) (AG G)) args s 0 0 (AG G)) 4 0 [(0, vR (0, 0, 0)), (1, vI a1), (2, vI a2), (3, vI a3)] [] σ
  unfold F_X10_hump at hF
  refine r_iload_n C 1 1 dX10_hump_0 rfl rfl ?_
  obtain ⟨r2, σ1, e3, hF⟩ := bd_e hF
  refine r_callS_i (as := [vI a1]) (st := []) C dX10_hump_1 (s_X10_isSize G l e3) t_3_157 t_3_158 t_1_1 t_3_159 m_X10_isSize ⟨Nat.le_of_ble_eq_true rfl, Nat.le_of_ble_eq_true rfl⟩ ⟨rfl, rfl⟩ ⟨Nat.zero_le _, Nat.zero_le _⟩ rfl (Nat.le_of_ble_eq_true rfl) ?_
  refine r_if_ne C 9 dX10_hump_4 (by decide)  (fun h23 => ?_) (fun h23 => ?_)
  · have hF := if_f h23 hF
    refine r_iload_n C 3 3 dX10_hump_9 rfl rfl ?_
    by_cases h4 : a3 = (0 : Int32)
    · have hF := if_t h4 hF
      refine r_tabIn (off := 30) C 40 dX10_hump_10 (by rw [h4]; decide) (by rw [h4]; decide) (by rw [h4]; rfl) (by decide) ?_
      refine r_aload_n C 0 0 dX10_hump_40 rfl rfl ?_
      refine r_getR (kf := 4) (d2 := (3, 0, 0)) C dX10_hump_41 rfl rfl f_X10 (by decide) t_2_99 rfl rfl ?_
      refine r_iload_n C 1 1 dX10_hump_44 rfl rfl ?_
      refine r_iload_n C 2 2 dX10_hump_45 rfl rfl ?_
      obtain ⟨r6, σ5, e7, hF⟩ := bd_e hF
      refine r_callV_i (as := [vI a1, vI a2]) (st := []) C dX10_hump_46 (s_X5_longestHeat G l e7) rfl rfl rfl t_4_143 t_4_144 t_4_145 t_1_3 t_4_146 m_X5_longestHeat ⟨Nat.le_of_ble_eq_true rfl, Nat.le_of_ble_eq_true rfl⟩ ⟨rfl, rfl⟩ ⟨Nat.zero_le _, Nat.zero_le _⟩ rfl (Nat.le_of_ble_eq_true rfl) ?_
      exact r_ireturn C dX10_hump_49 (rt_e hF)
    have hF := if_f h4 hF
    by_cases h8 : a3 = (1 : Int32)
    · have hF := if_t h8 hF
      refine r_tabIn (off := 40) C 50 dX10_hump_10 (by rw [h8]; decide) (by rw [h8]; decide) (by rw [h8]; rfl) (by decide) ?_
      refine r_aload_n C 0 0 dX10_hump_50 rfl rfl ?_
      refine r_getR (kf := 4) (d2 := (3, 0, 0)) C dX10_hump_51 rfl rfl f_X10 (by decide) t_2_99 rfl rfl ?_
      refine r_iload_n C 1 1 dX10_hump_54 rfl rfl ?_
      refine r_aload_n C 0 0 dX10_hump_55 rfl rfl ?_
      refine r_getR (kf := 4) (d2 := (3, 0, 0)) C dX10_hump_56 rfl rfl f_X10 (by decide) t_2_99 rfl rfl ?_
      refine r_iload_n C 1 1 dX10_hump_59 rfl rfl ?_
      refine r_iload_n C 2 2 dX10_hump_60 rfl rfl ?_
      obtain ⟨r10, σ9, e11, hF⟩ := bd_e hF
      refine r_callV_i (as := [vI a1, vI a2]) (st := [vI a1, vR (3, 0, 0)]) C dX10_hump_61 (s_X5_longestHeat G l e11) rfl rfl rfl t_4_143 t_4_144 t_4_145 t_1_3 t_4_146 m_X5_longestHeat ⟨Nat.le_of_ble_eq_true rfl, Nat.le_of_ble_eq_true rfl⟩ ⟨rfl, rfl⟩ ⟨Nat.zero_le _, Nat.zero_le _⟩ rfl (Nat.le_of_ble_eq_true rfl) ?_
      refine r_iload_n C 2 2 dX10_hump_64 rfl rfl ?_
      obtain ⟨r13, σ12, e14, hF⟩ := bd_e hF
      refine r_callV_i (as := [vI a1, vI r10, vI a2]) (st := []) C dX10_hump_65 (s_X5_lifeOf G l e14) rfl rfl rfl t_4_120 t_4_121 t_4_122 t_1_3 t_4_123 m_X5_lifeOf ⟨Nat.le_of_ble_eq_true rfl, Nat.le_of_ble_eq_true rfl⟩ ⟨rfl, rfl⟩ ⟨Nat.zero_le _, Nat.zero_le _⟩ rfl (Nat.le_of_ble_eq_true rfl) ?_
      exact r_ireturn C dX10_hump_68 (rt_e hF)
    have hF := if_f h8 hF
    by_cases h15 : a3 = (2 : Int32)
    · have hF := if_t h15 hF
      refine r_tabIn (off := 59) C 69 dX10_hump_10 (by rw [h15]; decide) (by rw [h15]; decide) (by rw [h15]; rfl) (by decide) ?_
      refine r_aload_n C 0 0 dX10_hump_69 rfl rfl ?_
      refine r_getR (kf := 4) (d2 := (3, 0, 0)) C dX10_hump_70 rfl rfl f_X10 (by decide) t_2_99 rfl rfl ?_
      refine r_iload_n C 1 1 dX10_hump_73 rfl rfl ?_
      refine r_iload_n C 2 2 dX10_hump_74 rfl rfl ?_
      obtain ⟨r17, σ16, e18, hF⟩ := bd_e hF
      refine r_callV_i (as := [vI a1, vI a2]) (st := []) C dX10_hump_75 (s_X5_shortestLife G l e18) rfl rfl rfl t_4_148 t_4_149 t_4_150 t_1_3 t_4_151 m_X5_shortestLife ⟨Nat.le_of_ble_eq_true rfl, Nat.le_of_ble_eq_true rfl⟩ ⟨rfl, rfl⟩ ⟨Nat.zero_le _, Nat.zero_le _⟩ rfl (Nat.le_of_ble_eq_true rfl) ?_
      exact r_ireturn C dX10_hump_78 (rt_e hF)
    have hF := if_f h15 hF
    by_cases h19 : a3 = (3 : Int32)
    · have hF := if_t h19 hF
      refine r_tabIn (off := 69) C 79 dX10_hump_10 (by rw [h19]; decide) (by rw [h19]; decide) (by rw [h19]; rfl) (by decide) ?_
      refine r_aload_n C 0 0 dX10_hump_79 rfl rfl ?_
      refine r_getR (kf := 4) (d2 := (3, 0, 0)) C dX10_hump_80 rfl rfl f_X10 (by decide) t_2_99 rfl rfl ?_
      refine r_iload_n C 1 1 dX10_hump_83 rfl rfl ?_
      refine r_iload_n C 2 2 dX10_hump_84 rfl rfl ?_
      obtain ⟨r21, σ20, e22, hF⟩ := bd_e hF
      refine r_callV_i (as := [vI a1, vI a2]) (st := []) C dX10_hump_85 (s_X5_firstLonger G l e22) rfl rfl rfl t_4_153 t_4_154 t_4_155 t_1_3 t_4_156 m_X5_firstLonger ⟨Nat.le_of_ble_eq_true rfl, Nat.le_of_ble_eq_true rfl⟩ ⟨rfl, rfl⟩ ⟨Nat.zero_le _, Nat.zero_le _⟩ rfl (Nat.le_of_ble_eq_true rfl) ?_
      exact r_ireturn C dX10_hump_88 (rt_e hF)
    have hF := if_f h19 hF
    refine r_tabOut C 89 dX10_hump_10 (by have u0 := lv_neT h4 (a := 0) rfl; have u1 := lv_neT h8 (a := 1) rfl; have u2 := lv_neT h15 (a := 2) rfl; have u3 := lv_neT h19 (a := 3) rfl; omega) (by decide) ?_
    refine r_iconst (v := (-1 : Int32)) C dX10_hump_89 rfl ?_
    exact r_ireturn C dX10_hump_90 (rt_e hF)
  · have hF := if_t h23 hF
    refine r_iconst (v := (-1 : Int32)) C dX10_hump_7 rfl ?_
    exact r_ireturn C dX10_hump_8 (rt_e hF)
def L_X10_hot_44 (c1 : Int32) (c2 : Int32) (c3 : Int32) (c4 : Int32) : Nat → Int32 → Int32 → Int32 → Int32 → St → (Int32 → Int32 → Int32 → St → Option (Int32 × St)) → Option (Int32 × St)
  | 0, _, _, _, _, _, _ => none
  | n + 1, v5, v6, v7, v8, τ, kx95 =>
  (if (99 : Int32) < v8 then kx95 v5 v6 v7 τ else bd (F_X5_lifeOf 0 c1 v8 c3 τ) fun r11 σ10 => nam (fun (y13 : Int32) (y14 : Int32) (y15 : Int32) (σ17 : St) => nam (v8 + (1 : Int32)) fun x18 => L_X10_hot_44 c1 c2 c3 c4 n y13 y14 y15 x18 σ17 kx95) fun k16 => (if r11 = c2 then nam (v5 + (1 : Int32)) fun x19 => nam (fun (y20 : Int32) (σ22 : St) => k16 x19 y20 v8 σ22) fun k21 => (if v6 = (-4 : Int32) then k21 v8 σ10 else k21 v6 σ10) else k16 v5 v6 v7 σ10))
def F_X10_hot (a1 : Int32) (a2 : Int32) (a3 : Int32) (a4 : Int32) (σ : St) : Option (Int32 × St) :=
  bd (F_X10_isSize a1 σ) fun r2 σ1 => (if r2 = 0 then some ((-1 : Int32), σ1) else bd (F_X10_within a2 (0 : Int32) (999 : Int32) σ1) fun r5 σ4 => (if r5 = 0 then some ((-1 : Int32), σ4) else bd (F_X10_within a4 (0 : Int32) (2 : Int32) σ4) fun r8 σ7 => (if r8 = 0 then some ((-1 : Int32), σ7) else L_X10_hot_44 a1 a2 a3 a4 FU (0 : Int32) (-4 : Int32) (-4 : Int32) (0 : Int32) σ7 (fun (y27 : Int32) (y28 : Int32) (y29 : Int32) (σ26 : St) => (if a4 = 0 then some (y27, σ26) else (if a4 = (1 : Int32) then some (y28, σ26) else some (y29, σ26)))))))
set_option maxRecDepth 20000 in
set_option maxHeartbeats 4000000 in
theorem l_X10_hot_44 {G : Gx} {p : Program} {l : Launch} {e : Env} {s : State} {m : MethodId} {args : Array Value} {below : List Frame} {meth : Method} {c : Code} (C : Cx G p s m args meth c (some .int) 9 RX10 cX10_hot) (c1 : Int32) (c2 : Int32) (c3 : Int32) (c4 : Int32) {σ' : St} {r : Int32} (kx95 : Int32 → Int32 → Int32 → St → Option (Int32 × St)) (hkx95 : ∀ (w5 : Int32) (w6 : Int32) (w7 : Int32) (τ : St), kx95 w5 w6 w7 τ = some (r, σ') → Rt G p l e (lvl 5) s m args below meth c 0 0 (MQ below (va_Qi (fun a b => a = r ∧ b = σ') (Wd G) (AG G)) args s 0 0 (AG G)) 9 95 [(4, vI c4), (5, vI w5), (6, vI w6), (7, vI w7)] [] τ) : ∀ (n : Nat) (v5 : Int32) (v6 : Int32) (v7 : Int32) (v8 : Int32) (τ : St), L_X10_hot_44 c1 c2 c3 c4 n v5 v6 v7 v8 τ kx95 = some (r, σ') → Rt G p l e (lvl 5) s m args below meth c 0 0 (MQ below (va_Qi (fun a b => a = r ∧ b = σ') (Wd G) (AG G)) args s 0 0 (AG G)) 9 44 [(0, vR (0, 0, 0)), (1, vI c1), (2, vI c2), (3, vI c3), (4, vI c4), (5, vI v5), (6, vI v6), (7, vI v7), (8, vI v8)] [] τ := by
  intro n
  induction n with
  | zero => intro v5 v6 v7 v8 τ hF; cases hF
  | succ n ih =>
    intro v5 v6 v7 v8 τ hF
    unfold L_X10_hot_44 at hF
    refine r_iload C 8 dX10_hot_44 rfl ?_
    refine r_bipush (v := (99 : Int32)) C dX10_hot_46 rfl ?_
    refine r_icmp_gt C 95 dX10_hot_48 (by decide)  (fun h25 => ?_) (fun h25 => ?_)
    · have hF := if_t h25 hF
      refine r_drop (ls2 := [(4, vI c4), (5, vI v5), (6, vI v6), (7, vI v7)]) [4, 5, 6, 7] rfl ?_
      exact hkx95 _ _ _ _ hF
    · have hF := if_f h25 hF
      refine r_aload_n C 0 0 dX10_hot_51 rfl rfl ?_
      refine r_getR (kf := 4) (d2 := (3, 0, 0)) C dX10_hot_52 rfl rfl f_X10 (by decide) t_2_99 rfl rfl ?_
      refine r_iload_n C 1 1 dX10_hot_55 rfl rfl ?_
      refine r_iload C 8 dX10_hot_56 rfl ?_
      refine r_iload_n C 3 3 dX10_hot_58 rfl rfl ?_
      obtain ⟨r11, σ10, e12, hF⟩ := bd_e hF
      refine r_callV_i (as := [vI c1, vI v8, vI c3]) (st := []) C dX10_hot_59 (s_X5_lifeOf G l e12) rfl rfl rfl t_4_120 t_4_121 t_4_122 t_1_3 t_4_123 m_X5_lifeOf ⟨Nat.le_of_ble_eq_true rfl, Nat.le_of_ble_eq_true rfl⟩ ⟨rfl, rfl⟩ ⟨Nat.zero_le _, Nat.zero_le _⟩ rfl (Nat.le_of_ble_eq_true rfl) ?_
      refine r_iload_n C 2 2 dX10_hot_62 rfl rfl ?_
      obtain ⟨k16, ek16, hF⟩ := nam_e hF
      have hk16 : ∀ (y13 : Int32) (y14 : Int32) (y15 : Int32) (σ17 : St), k16 y13 y14 y15 σ17 = some (r, σ') → Rt G p l e (lvl 5) s m args below meth c 0 0 (MQ below (va_Qi (fun a b => a = r ∧ b = σ') (Wd G) (AG G)) args s 0 0 (AG G)) 9 89 [(0, vR (0, 0, 0)), (1, vI c1), (2, vI c2), (3, vI c3), (4, vI c4), (5, vI y13), (6, vI y14), (7, vI y15), (8, vI v8)] [] σ17 := by
        intro y13 y14 y15 σ17 hF
        subst ek16
        obtain ⟨x18, ex18, hF⟩ := nam_e hF
        refine r_iinc (v := x18) (ls2 := [(8, vI x18), (0, vR (0, 0, 0)), (1, vI c1), (2, vI c2), (3, vI c3), (4, vI c4), (5, vI y13), (6, vI y14), (7, vI y15)]) C 8 dX10_hot_89 rfl ex18.symm (by decide) rfl ?_
        refine r_goto C 44 dX10_hot_92 (by decide) ?_
        refine r_drop (ls2 := [(0, vR (0, 0, 0)), (1, vI c1), (2, vI c2), (3, vI c3), (4, vI c4), (5, vI y13), (6, vI y14), (7, vI y15), (8, vI x18)]) [1, 2, 3, 4, 5, 6, 7, 8, 0] rfl ?_
        exact ih _ _ _ _ _ hF
      refine r_icmp_ne C 89 dX10_hot_63 (by decide)  (fun h24 => ?_) (fun h24 => ?_)
      · have hF := if_f h24 hF
        exact hk16 _ _ _ _ hF
      · have hF := if_t h24 hF
        obtain ⟨x19, ex19, hF⟩ := nam_e hF
        refine r_iinc (v := x19) (ls2 := [(5, vI x19), (0, vR (0, 0, 0)), (1, vI c1), (2, vI c2), (3, vI c3), (4, vI c4), (6, vI v6), (7, vI v7), (8, vI v8)]) C 5 dX10_hot_66 rfl ex19.symm (by decide) rfl ?_
        refine r_iload C 6 dX10_hot_69 rfl ?_
        refine r_bipush (v := (-4 : Int32)) C dX10_hot_71 rfl ?_
        obtain ⟨k21, ek21, hF⟩ := nam_e hF
        have hk21 : ∀ (y20 : Int32) (σ22 : St), k21 y20 σ22 = some (r, σ') → Rt G p l e (lvl 5) s m args below meth c 0 0 (MQ below (va_Qi (fun a b => a = r ∧ b = σ') (Wd G) (AG G)) args s 0 0 (AG G)) 9 83 [(0, vR (0, 0, 0)), (1, vI c1), (2, vI c2), (3, vI c3), (4, vI c4), (5, vI x19), (8, vI v8)] [vI y20] σ22 := by
          intro y20 σ22 hF
          subst ek21
          refine r_istore (ls2 := [(6, vI y20), (0, vR (0, 0, 0)), (1, vI c1), (2, vI c2), (3, vI c3), (4, vI c4), (5, vI x19), (8, vI v8)]) C dX10_hot_83 (by decide) rfl ?_
          refine r_iload C 7 dX10_hot_85 rfl ?_
          refine r_istore (ls2 := [(7, vI v8), (6, vI y20), (0, vR (0, 0, 0)), (1, vI c1), (2, vI c2), (3, vI c3), (4, vI c4), (5, vI x19), (8, vI v8)]) C dX10_hot_87 (by decide) rfl ?_
          refine r_drop (ls2 := [(0, vR (0, 0, 0)), (1, vI c1), (2, vI c2), (3, vI c3), (4, vI c4), (5, vI x19), (6, vI y20), (7, vI v8), (8, vI v8)]) [2, 3, 4, 5, 6, 7, 1, 0, 8] rfl ?_
          exact hk16 _ _ _ _ hF
        refine r_icmp_ne C 81 dX10_hot_73 (by decide)  (fun h23 => ?_) (fun h23 => ?_)
        · have hF := if_f h23 hF
          refine r_iload C 6 dX10_hot_81 rfl ?_
          refine r_drop (ls2 := [(0, vR (0, 0, 0)), (1, vI c1), (2, vI c2), (3, vI c3), (4, vI c4), (5, vI x19), (8, vI v8)]) [1, 2, 3, 4, 5, 0, 8] rfl ?_
          exact hk21 _ _ hF
        · have hF := if_t h23 hF
          refine r_iload C 8 dX10_hot_76 rfl ?_
          refine r_goto C 83 dX10_hot_78 (by decide) ?_
          refine r_drop (ls2 := [(0, vR (0, 0, 0)), (1, vI c1), (2, vI c2), (3, vI c3), (4, vI c4), (5, vI x19), (8, vI v8)]) [1, 2, 3, 4, 5, 0, 8] rfl ?_
          exact hk21 _ _ hF
set_option maxRecDepth 20000 in
set_option maxHeartbeats 4000000 in
theorem s_X10_hot (G : Gx) (l : Launch) {a1 : Int32} {a2 : Int32} {a3 : Int32} {a4 : Int32} {σ σ' : St} {r : Int32} (hF : F_X10_hot a1 a2 a3 a4 σ = some (r, σ')) : Sp G l yX10_hot cX10_hot 9 (some .int) (lvl 5) [vR (0, 0, 0), vI a1, vI a2, vI a3, vI a4] σ (va_Qi (fun a b => a = r ∧ b = σ') (Wd G) (AG G)) := by
  refine Sp_of (own := RX10) (by decide) rfl (Nat.le_of_ble_eq_true rfl) ?_
  intro p e s m args below meth c C
  show Rt G p l e (lvl 5) s m args below meth c 0 0 (MQ below (va_Qi (fun a b => a = r ∧ b = σ') (Wd G) (AG G)) args s 0 0 (AG G)) 9 0 [(0, vR (0, 0, 0)), (1, vI a1), (2, vI a2), (3, vI a3), (4, vI a4)] [] σ
  unfold F_X10_hot at hF
  refine r_iload_n C 1 1 dX10_hot_0 rfl rfl ?_
  obtain ⟨r2, σ1, e3, hF⟩ := bd_e hF
  refine r_callS_i (as := [vI a1]) (st := []) C dX10_hot_1 (s_X10_isSize G l e3) t_3_157 t_3_158 t_1_1 t_3_159 m_X10_isSize ⟨Nat.le_of_ble_eq_true rfl, Nat.le_of_ble_eq_true rfl⟩ ⟨rfl, rfl⟩ ⟨Nat.zero_le _, Nat.zero_le _⟩ rfl (Nat.le_of_ble_eq_true rfl) ?_
  refine r_if_eq C 28 dX10_hot_4 (by decide)  (fun h34 => ?_) (fun h34 => ?_)
  · have hF := if_t h34 hF
    refine r_iconst (v := (-1 : Int32)) C dX10_hot_28 rfl ?_
    exact r_ireturn C dX10_hot_29 (rt_e hF)
  · have hF := if_f h34 hF
    refine r_iload_n C 2 2 dX10_hot_7 rfl rfl ?_
    refine r_iconst (v := (0 : Int32)) C dX10_hot_8 rfl ?_
    refine r_sipush (v := (999 : Int32)) C dX10_hot_9 rfl ?_
    obtain ⟨r5, σ4, e6, hF⟩ := bd_e hF
    refine r_callS_i (as := [vI a2, vI (0 : Int32), vI (999 : Int32)]) (st := []) C dX10_hot_12 (s_X10_within G l e6) t_2_143 t_2_144 t_1_1 t_2_145 m_X10_within ⟨Nat.le_of_ble_eq_true rfl, Nat.le_of_ble_eq_true rfl⟩ ⟨rfl, rfl⟩ ⟨Nat.zero_le _, Nat.zero_le _⟩ rfl (Nat.le_of_ble_eq_true rfl) ?_
    refine r_if_eq C 28 dX10_hot_15 (by decide)  (fun h33 => ?_) (fun h33 => ?_)
    · have hF := if_t h33 hF
      refine r_iconst (v := (-1 : Int32)) C dX10_hot_28 rfl ?_
      exact r_ireturn C dX10_hot_29 (rt_e hF)
    · have hF := if_f h33 hF
      refine r_iload C 4 dX10_hot_18 rfl ?_
      refine r_iconst (v := (0 : Int32)) C dX10_hot_20 rfl ?_
      refine r_iconst (v := (2 : Int32)) C dX10_hot_21 rfl ?_
      obtain ⟨r8, σ7, e9, hF⟩ := bd_e hF
      refine r_callS_i (as := [vI a4, vI (0 : Int32), vI (2 : Int32)]) (st := []) C dX10_hot_22 (s_X10_within G l e9) t_2_143 t_2_144 t_1_1 t_2_145 m_X10_within ⟨Nat.le_of_ble_eq_true rfl, Nat.le_of_ble_eq_true rfl⟩ ⟨rfl, rfl⟩ ⟨Nat.zero_le _, Nat.zero_le _⟩ rfl (Nat.le_of_ble_eq_true rfl) ?_
      refine r_if_ne C 30 dX10_hot_25 (by decide)  (fun h32 => ?_) (fun h32 => ?_)
      · have hF := if_f h32 hF
        refine r_iconst (v := (0 : Int32)) C dX10_hot_30 rfl ?_
        refine r_istore (ls2 := [(5, vI (0 : Int32)), (0, vR (0, 0, 0)), (1, vI a1), (2, vI a2), (3, vI a3), (4, vI a4)]) C dX10_hot_31 (by decide) rfl ?_
        refine r_bipush (v := (-4 : Int32)) C dX10_hot_33 rfl ?_
        refine r_istore (ls2 := [(6, vI (-4 : Int32)), (5, vI (0 : Int32)), (0, vR (0, 0, 0)), (1, vI a1), (2, vI a2), (3, vI a3), (4, vI a4)]) C dX10_hot_35 (by decide) rfl ?_
        refine r_bipush (v := (-4 : Int32)) C dX10_hot_37 rfl ?_
        refine r_istore (ls2 := [(7, vI (-4 : Int32)), (6, vI (-4 : Int32)), (5, vI (0 : Int32)), (0, vR (0, 0, 0)), (1, vI a1), (2, vI a2), (3, vI a3), (4, vI a4)]) C dX10_hot_39 (by decide) rfl ?_
        refine r_iconst (v := (0 : Int32)) C dX10_hot_41 rfl ?_
        refine r_istore (ls2 := [(8, vI (0 : Int32)), (7, vI (-4 : Int32)), (6, vI (-4 : Int32)), (5, vI (0 : Int32)), (0, vR (0, 0, 0)), (1, vI a1), (2, vI a2), (3, vI a3), (4, vI a4)]) C dX10_hot_42 (by decide) rfl ?_
        refine r_drop (ls2 := [(0, vR (0, 0, 0)), (1, vI a1), (2, vI a2), (3, vI a3), (4, vI a4), (5, vI (0 : Int32)), (6, vI (-4 : Int32)), (7, vI (-4 : Int32)), (8, vI (0 : Int32))]) [4, 5, 6, 7, 8, 3, 2, 1, 0] rfl ?_
        refine l_X10_hot_44 C a1 a2 a3 a4 _ ?_ _ _ _ _ _ _ hF
        · intro y27 y28 y29 σ26 hF
          refine r_iload C 0 dX10_hot_95 rfl ?_
          refine r_if_ne C 105 dX10_hot_97 (by decide)  (fun h31 => ?_) (fun h31 => ?_)
          · have hF := if_f h31 hF
            refine r_iload C 0 dX10_hot_105 rfl ?_
            refine r_iconst (v := (1 : Int32)) C dX10_hot_107 rfl ?_
            refine r_icmp_ne C 116 dX10_hot_108 (by decide)  (fun h30 => ?_) (fun h30 => ?_)
            · have hF := if_f h30 hF
              refine r_iload C 3 dX10_hot_116 rfl ?_
              exact r_ireturn C dX10_hot_118 (rt_e hF)
            · have hF := if_t h30 hF
              refine r_iload C 2 dX10_hot_111 rfl ?_
              refine r_goto C 118 dX10_hot_113 (by decide) ?_
              exact r_ireturn C dX10_hot_118 (rt_e hF)
          · have hF := if_t h31 hF
            refine r_iload C 1 dX10_hot_100 rfl ?_
            refine r_goto C 118 dX10_hot_102 (by decide) ?_
            exact r_ireturn C dX10_hot_118 (rt_e hF)
      · have hF := if_t h32 hF
        refine r_iconst (v := (-1 : Int32)) C dX10_hot_28 rfl ?_
        exact r_ireturn C dX10_hot_29 (rt_e hF)
def L_J7_fill_d0a16_t19_6 (q0 : Nat) (c1 : Int64) (c4 : Int32) : Nat → Int32 → St → Option (Unit × St)
  | 0, _, _ => none
  | n + 1, v3, τ =>
  (if c4 ≤ v3 then some ((), τ) else ck (inb v3 96) (nam (uL τ (19, q0, 0) (v3.toNatClampNeg) c1) fun σ2 => nam (v3 + (1 : Int32)) fun x3 => L_J7_fill_d0a16_t19_6 q0 c1 c4 n x3 σ2))
def F_J7_fill_d0a16_t19 (q0 : Nat) (a1 : Int64) (σ : St) : Option (Unit × St) :=
  L_J7_fill_d0a16_t19_6 q0 a1 (96 : Int32) FU (0 : Int32) σ 
set_option maxRecDepth 20000 in
set_option maxHeartbeats 4000000 in
theorem l_J7_fill_d0a16_t19_6 {G : Gx} {p : Program} {l : Launch} {e : Env} {s : State} {m : MethodId} {args : Array Value} {below : List Frame} {meth : Method} {c : Code} (C : Cx G p s m args meth c none 5 RJ7 cJ7_fill_d0a16) (q0 : Nat) (c1 : Int64) (c4 : Int32) {σ' : St}  : ∀ (n : Nat) (v3 : Int32) (τ : St), L_J7_fill_d0a16_t19_6 q0 c1 c4 n v3 τ = some ((), σ') → Rt G p l e (lvl 0) s m args below meth c 0 0 (MQ below (va_Qv (fun b => b = σ') (Wd G) (AG G)) args s 0 0 (AG G)) 5 6 [(0, vR (19, q0, 0)), (1, vL c1), (3, vI v3), (4, vI c4)] [] τ := by
  intro n
  induction n with
  | zero => intro v3 τ hF; cases hF
  | succ n ih =>
    intro v3 τ hF
    unfold L_J7_fill_d0a16_t19_6 at hF
    refine r_iload_n C 2 3 dJ7_fill_d0a16_6 rfl rfl ?_
    refine r_iload C 3 dJ7_fill_d0a16_7 rfl ?_
    refine r_icmp_ge C 22 dJ7_fill_d0a16_9 (by decide)  (fun h4 => ?_) (fun h4 => ?_)
    · have hF := if_t h4 hF
      exact r_return C dJ7_fill_d0a16_22 (rv_e hF)
    · have hF := if_f h4 hF
      refine r_aload_n C 0 0 dJ7_fill_d0a16_12 rfl rfl ?_
      refine r_iload_n C 2 3 dJ7_fill_d0a16_13 rfl rfl ?_
      refine r_lload_n C 1 1 dJ7_fill_d0a16_14 rfl rfl ?_
      obtain ⟨h1, hF⟩ := ck_e hF
      obtain ⟨σ2, eσ2, hF⟩ := nam_e hF
      refine r_lastore C (v3.toNatClampNeg) dJ7_fill_d0a16_15 rfl h1 rfl eσ2 ?_
      obtain ⟨x3, ex3, hF⟩ := nam_e hF
      refine r_iinc (v := x3) (ls2 := [(3, vI x3), (0, vR (19, q0, 0)), (1, vL c1), (4, vI c4)]) C 2 dJ7_fill_d0a16_16 rfl ex3.symm (by decide) rfl ?_
      refine r_goto C 6 dJ7_fill_d0a16_19 (by decide) ?_
      refine r_drop (ls2 := [(0, vR (19, q0, 0)), (1, vL c1), (3, vI x3), (4, vI c4)]) [1, 2, 0, 3] rfl ?_
      exact ih _ _ hF
set_option maxRecDepth 20000 in
set_option maxHeartbeats 4000000 in
theorem s_J7_fill_d0a16_t19 (G : Gx) (l : Launch) {q0 : Nat} {a1 : Int64} {σ σ' : St}  (hF : F_J7_fill_d0a16_t19 q0 a1 σ = some ((), σ')) : Sp G l yJ7_fill_d0a16 cJ7_fill_d0a16 5 none (lvl 0) [vR (19, q0, 0), vL a1] σ (va_Qv (fun b => b = σ') (Wd G) (AG G)) := by
  refine Sp_of (own := RJ7) (by decide) rfl (Nat.le_of_ble_eq_true rfl) ?_
  intro p e s m args below meth c C
  show Rt G p l e (lvl 0) s m args below meth c 0 0 (MQ below (va_Qv (fun b => b = σ') (Wd G) (AG G)) args s 0 0 (AG G)) 5 0 [(0, vR (19, q0, 0)), (1, vL a1)] [] σ
  unfold F_J7_fill_d0a16_t19 at hF
  refine r_iconst (v := (0 : Int32)) C dJ7_fill_d0a16_0 rfl ?_
  refine r_istore_n (ls2 := [(3, vI (0 : Int32)), (0, vR (19, q0, 0)), (1, vL a1)]) C dJ7_fill_d0a16_1 3 rfl (by decide) rfl ?_
  refine r_aload_n C 1 0 dJ7_fill_d0a16_2 rfl rfl ?_
  refine r_alenJ (v := (96 : Int32)) C dJ7_fill_d0a16_3 rfl rfl ?_
  refine r_istore (ls2 := [(4, vI (96 : Int32)), (3, vI (0 : Int32)), (0, vR (19, q0, 0)), (1, vL a1)]) C dJ7_fill_d0a16_4 (by decide) rfl ?_
  refine r_drop (ls2 := [(0, vR (19, q0, 0)), (1, vL a1), (3, vI (0 : Int32)), (4, vI (96 : Int32))]) [2, 3, 1, 0] rfl ?_
  refine l_J7_fill_d0a16_t19_6 C q0 a1 (96 : Int32)  _ _ _ hF
def F_X4_takeOut (a1 : Int32) (σ : St) : Option (Int64 × St) :=
  ck (inb a1 96) (nam (σ.2 (19, 0, 0) (a1.toNatClampNeg)) fun x2 => ck (inb a1 96) (nam (uL σ (19, 0, 0) (a1.toNatClampNeg) (0 : Int64)) fun σ4 => some (x2, σ4)))
set_option maxRecDepth 20000 in
set_option maxHeartbeats 4000000 in
theorem s_X4_takeOut (G : Gx) (l : Launch) {a1 : Int32} {σ σ' : St} {r : Int64} (hF : F_X4_takeOut a1 σ = some (r, σ')) : Sp G l yX4_takeOut cX4_takeOut 4 (some .long) (lvl 0) [vR (18, 0, 0), vI a1] σ (va_Ql (fun a b => a = r ∧ b = σ') (Wd G) (AG G)) := by
  refine Sp_of (own := RX4) (by decide) rfl (Nat.le_of_ble_eq_true rfl) ?_
  intro p e s m args below meth c C
  show Rt G p l e (lvl 0) s m args below meth c 0 0 (MQ below (va_Ql (fun a b => a = r ∧ b = σ') (Wd G) (AG G)) args s 0 0 (AG G)) 4 0 [(0, vR (18, 0, 0)), (1, vI a1)] [] σ
  unfold F_X4_takeOut at hF
  refine r_aload_n C 0 0 dX4_takeOut_0 rfl rfl ?_
  refine r_getR (kf := 0) (d2 := (19, 0, 0)) C dX4_takeOut_1 rfl rfl f_X4 (by decide) t_2_29 rfl rfl ?_
  refine r_iload_n C 1 1 dX4_takeOut_4 rfl rfl ?_
  obtain ⟨h1, hF⟩ := ck_e hF
  refine r_laload C (a1.toNatClampNeg) dX4_takeOut_5 rfl h1 rfl ?_
  obtain ⟨x2, ex2, hF⟩ := nam_e hF
  refine r_topL ex2 ?_
  refine r_lstore_n (ls2 := [(2, vL x2), (0, vR (18, 0, 0)), (1, vI a1)]) C dX4_takeOut_6 2 rfl (by decide) rfl ?_
  refine r_aload_n C 1 0 dX4_takeOut_7 rfl rfl ?_
  refine r_getR (kf := 0) (d2 := (19, 0, 0)) C dX4_takeOut_8 rfl rfl f_X4 (by decide) t_2_29 rfl rfl ?_
  refine r_iload_n C 2 1 dX4_takeOut_11 rfl rfl ?_
  refine r_lconst (v := (0 : Int64)) C dX4_takeOut_12 rfl ?_
  obtain ⟨h3, hF⟩ := ck_e hF
  obtain ⟨σ4, eσ4, hF⟩ := nam_e hF
  refine r_lastore C (a1.toNatClampNeg) dX4_takeOut_13 rfl h3 rfl eσ4 ?_
  refine r_lload_n C 0 2 dX4_takeOut_14 rfl rfl ?_
  exact r_lreturn C dX4_takeOut_15 (rt_e hF)
def F_X4_rolledTo (q0 : Nat) (a1 : Int32) (a2 : Int32) (σ : St) : Option (Int32 × St) :=
  bd (F_X6_kindAt q0 a1 σ) fun r2 σ1 => (if r2 = (6 : Int32) then some (a1, σ1) else bd (F_X10_isWay r2 σ1) fun r5 σ4 => nam (fun (y7 : Int32) (σ9 : St) => bd (F_X10_nextCell a1 y7 σ9) fun r11 σ10 => bd (F_X6_kindAt q0 r11 σ10) fun r14 σ13 => (if r14 = (5 : Int32) then some (a1, σ13) else some (r11, σ13))) fun k8 => (if r5 = 0 then k8 a2 σ4 else k8 r2 σ4))
set_option maxRecDepth 20000 in
set_option maxHeartbeats 4000000 in
theorem s_X4_rolledTo (G : Gx) (l : Launch) {q0 : Nat} {a1 : Int32} {a2 : Int32} {σ σ' : St} {r : Int32} (hF : F_X4_rolledTo q0 a1 a2 σ = some (r, σ')) : Sp G l yX4_rolledTo cX4_rolledTo 5 (some .int) (lvl 1) [vR (7, q0, 0), vI a1, vI a2] σ (va_Qi (fun a b => a = r ∧ b = σ') (Wd G) (AG G)) := by
  refine Sp_of (own := RX4) (by decide) rfl (Nat.le_of_ble_eq_true rfl) ?_
  intro p e s m args below meth c C
  show Rt G p l e (lvl 1) s m args below meth c 0 0 (MQ below (va_Qi (fun a b => a = r ∧ b = σ') (Wd G) (AG G)) args s 0 0 (AG G)) 5 0 [(0, vR (7, q0, 0)), (1, vI a1), (2, vI a2)] [] σ
  unfold F_X4_rolledTo at hF
  refine r_aload_n C 0 0 dX4_rolledTo_0 rfl rfl ?_
  refine r_iload_n C 1 1 dX4_rolledTo_1 rfl rfl ?_
  obtain ⟨r2, σ1, e3, hF⟩ := bd_e hF
  refine r_callV_i (as := [vI a1]) (st := []) C dX4_rolledTo_2 (s_X6_kindAt G l e3) rfl rfl rfl t_4_185 t_3_124 t_3_125 t_1_5 t_3_126 m_X6_kindAt ⟨Nat.le_of_ble_eq_true rfl, Nat.le_of_ble_eq_true rfl⟩ ⟨rfl, rfl⟩ ⟨Nat.zero_le _, Nat.zero_le _⟩ rfl (Nat.le_of_ble_eq_true rfl) ?_
  refine r_istore_n (ls2 := [(3, vI r2), (0, vR (7, q0, 0)), (1, vI a1), (2, vI a2)]) C dX4_rolledTo_5 3 rfl (by decide) rfl ?_
  refine r_iload_n C 0 3 dX4_rolledTo_6 rfl rfl ?_
  refine r_bipush (v := (6 : Int32)) C dX4_rolledTo_7 rfl ?_
  refine r_icmp_ne C 14 dX4_rolledTo_9 (by decide)  (fun h18 => ?_) (fun h18 => ?_)
  · have hF := if_f h18 hF
    refine r_iload_n C 2 1 dX4_rolledTo_14 rfl rfl ?_
    refine r_iload_n C 0 3 dX4_rolledTo_15 rfl rfl ?_
    obtain ⟨r5, σ4, e6, hF⟩ := bd_e hF
    refine r_callN_i (as := [vI r2]) (st := [vI a1]) C dX4_rolledTo_16 (s_X10_isWay G l e6) (by decide) t_3_161 t_1_1 t_3_162 m_X10_isWay ⟨Nat.le_of_ble_eq_true rfl, Nat.le_of_ble_eq_true rfl⟩ ⟨rfl, rfl⟩ ⟨Nat.zero_le _, Nat.zero_le _⟩ rfl (Nat.le_of_ble_eq_true rfl) ?_
    obtain ⟨k8, ek8, hF⟩ := nam_e hF
    have hk8 : ∀ (y7 : Int32) (σ9 : St), k8 y7 σ9 = some (r, σ') → Rt G p l e (lvl 1) s m args below meth c 0 0 (MQ below (va_Qi (fun a b => a = r ∧ b = σ') (Wd G) (AG G)) args s 0 0 (AG G)) 5 27 [(0, vR (7, q0, 0)), (1, vI a1)] [vI y7, vI a1] σ9 := by
      intro y7 σ9 hF
      subst ek8
      obtain ⟨r11, σ10, e12, hF⟩ := bd_e hF
      refine r_callN_i (as := [vI a1, vI y7]) (st := []) C dX4_rolledTo_27 (s_X10_nextCell G l e12) (by decide) t_3_235 t_1_1 t_3_236 m_X10_nextCell ⟨Nat.le_of_ble_eq_true rfl, Nat.le_of_ble_eq_true rfl⟩ ⟨rfl, rfl⟩ ⟨Nat.zero_le _, Nat.zero_le _⟩ rfl (Nat.le_of_ble_eq_true rfl) ?_
      refine r_istore (ls2 := [(4, vI r11), (0, vR (7, q0, 0)), (1, vI a1)]) C dX4_rolledTo_30 (by decide) rfl ?_
      refine r_aload_n C 1 0 dX4_rolledTo_32 rfl rfl ?_
      refine r_iload C 0 dX4_rolledTo_33 rfl ?_
      obtain ⟨r14, σ13, e15, hF⟩ := bd_e hF
      refine r_callV_i (as := [vI r11]) (st := []) C dX4_rolledTo_35 (s_X6_kindAt G l e15) rfl rfl rfl t_4_185 t_3_124 t_3_125 t_1_5 t_3_126 m_X6_kindAt ⟨Nat.le_of_ble_eq_true rfl, Nat.le_of_ble_eq_true rfl⟩ ⟨rfl, rfl⟩ ⟨Nat.zero_le _, Nat.zero_le _⟩ rfl (Nat.le_of_ble_eq_true rfl) ?_
      refine r_iconst (v := (5 : Int32)) C dX4_rolledTo_38 rfl ?_
      refine r_icmp_ne C 46 dX4_rolledTo_39 (by decide)  (fun h16 => ?_) (fun h16 => ?_)
      · have hF := if_f h16 hF
        refine r_iload C 0 dX4_rolledTo_46 rfl ?_
        exact r_ireturn C dX4_rolledTo_48 (rt_e hF)
      · have hF := if_t h16 hF
        refine r_iload_n C 2 1 dX4_rolledTo_42 rfl rfl ?_
        refine r_goto C 48 dX4_rolledTo_43 (by decide) ?_
        exact r_ireturn C dX4_rolledTo_48 (rt_e hF)
    refine r_if_eq C 26 dX4_rolledTo_19 (by decide)  (fun h17 => ?_) (fun h17 => ?_)
    · have hF := if_t h17 hF
      refine r_iload_n C 3 2 dX4_rolledTo_26 rfl rfl ?_
      refine r_drop (ls2 := [(0, vR (7, q0, 0)), (1, vI a1)]) [1, 2] rfl ?_
      exact hk8 _ _ hF
    · have hF := if_f h17 hF
      refine r_iload_n C 0 3 dX4_rolledTo_22 rfl rfl ?_
      refine r_goto C 27 dX4_rolledTo_23 (by decide) ?_
      refine r_drop (ls2 := [(0, vR (7, q0, 0)), (1, vI a1)]) [1, 2] rfl ?_
      exact hk8 _ _ hF
  · have hF := if_t h18 hF
    refine r_iload_n C 2 1 dX4_rolledTo_12 rfl rfl ?_
    exact r_ireturn C dX4_rolledTo_13 (rt_e hF)
def L_X4_rollAll_29 (q1 : Nat) (c2 : Int32) : Nat → Int32 → St → (St → Option (Unit × St)) → Option (Unit × St)
  | 0, _, _, _ => none
  | n + 1, v3, τ, kx76 =>
  (if (4 : Int32) ≤ v3 then kx76  τ else bd (F_X4_rolledTo q1 c2 v3 τ) fun r8 σ7 => bd (F_X10_isCell r8 σ7) fun r11 σ10 => nam (fun (y13 : Int32) (σ15 : St) => ck (inb y13 96) (ck (inb c2 96) (ck (inb y13 96) (nam (uL σ15 (19, 1, 0) (y13.toNatClampNeg) ((σ15.2 (19, 1, 0) (y13.toNatClampNeg)) + (σ15.2 (19, 0, 0) (c2.toNatClampNeg)))) fun σ19 => nam (v3 + (1 : Int32)) fun x20 => L_X4_rollAll_29 q1 c2 n x20 σ19 kx76)))) fun k14 => (if r11 = 0 then k14 c2 σ10 else k14 r8 σ10))
def L_X4_rollAll_10 (q1 : Nat) : Nat → Int32 → St → (St → Option (Unit × St)) → Option (Unit × St)
  | 0, _, _, _ => none
  | n + 1, v2, τ, kx82 =>
  (if (96 : Int32) ≤ v2 then kx82  τ else ck (inb v2 96) (nam (fun  (σ5 : St) => nam (v2 + (1 : Int32)) fun x6 => L_X4_rollAll_10 q1 n x6 σ5 kx82) fun k4 => (if (lg_cmp (τ.2 (19, 0, 0) (v2.toNatClampNeg)) (0 : Int64)) = 0 then k4  τ else L_X4_rollAll_29 q1 v2 FU (0 : Int32) τ (fun  (σ23 : St) => k4  σ23))))
def F_X4_rollAll (q1 : Nat) (σ : St) : Option (Unit × St) :=
  bd (F_J7_fill_d0a16_t19 1 (0 : Int64) σ) fun _ σ1 => L_X4_rollAll_10 q1 FU (0 : Int32) σ1 (fun  (σ26 : St) => ck (cpk (0 : Int32) (0 : Int32) (96 : Int32) 96 96) (nam (uRL σ26 (19, 0, 0) (va_cpy (σ26.2 (19, 1, 0)) (σ26.2 (19, 0, 0)) (0 : Int32).toNatClampNeg (0 : Int32).toNatClampNeg (96 : Int32).toNatClampNeg)) fun σ28 => some ((), σ28)))
set_option maxRecDepth 20000 in
set_option maxHeartbeats 4000000 in
theorem l_X4_rollAll_29 {G : Gx} {p : Program} {l : Launch} {e : Env} {s : State} {m : MethodId} {args : Array Value} {below : List Frame} {meth : Method} {c : Code} (C : Cx G p s m args meth c none 5 RX4 cX4_rollAll) (q1 : Nat) (c2 : Int32) {σ' : St}  (kx76 : St → Option (Unit × St)) (hkx76 : ∀  (τ : St), kx76  τ = some ((), σ') → Rt G p l e (lvl 2) s m args below meth c 0 0 (MQ below (va_Qv (fun b => b = σ') (Wd G) (AG G)) args s 0 0 (AG G)) 5 76 [(0, vR (18, 0, 0)), (1, vR (7, q1, 0)), (2, vI c2)] [] τ) : ∀ (n : Nat) (v3 : Int32) (τ : St), L_X4_rollAll_29 q1 c2 n v3 τ kx76 = some ((), σ') → Rt G p l e (lvl 2) s m args below meth c 0 0 (MQ below (va_Qv (fun b => b = σ') (Wd G) (AG G)) args s 0 0 (AG G)) 5 29 [(0, vR (18, 0, 0)), (1, vR (7, q1, 0)), (2, vI c2), (3, vI v3)] [] τ := by
  intro n
  induction n with
  | zero => intro v3 τ hF; cases hF
  | succ n ih =>
    intro v3 τ hF
    unfold L_X4_rollAll_29 at hF
    refine r_iload_n C 3 3 dX4_rollAll_29 rfl rfl ?_
    refine r_iconst (v := (4 : Int32)) C dX4_rollAll_30 rfl ?_
    refine r_icmp_ge C 76 dX4_rollAll_31 (by decide)  (fun h22 => ?_) (fun h22 => ?_)
    · have hF := if_t h22 hF
      refine r_drop (ls2 := [(0, vR (18, 0, 0)), (1, vR (7, q1, 0)), (2, vI c2)]) [0, 1, 2] rfl ?_
      exact hkx76 _ hF
    · have hF := if_f h22 hF
      refine r_aload_n C 1 1 dX4_rollAll_34 rfl rfl ?_
      refine r_iload_n C 2 2 dX4_rollAll_35 rfl rfl ?_
      refine r_iload_n C 3 3 dX4_rollAll_36 rfl rfl ?_
      obtain ⟨r8, σ7, e9, hF⟩ := bd_e hF
      refine r_callS_i (as := [vR (7, q1, 0), vI c2, vI v3]) (st := []) C dX4_rollAll_37 (s_X4_rolledTo G l e9) t_4_182 t_4_183 t_1_10 t_4_184 m_X4_rolledTo ⟨Nat.le_of_ble_eq_true rfl, Nat.le_of_ble_eq_true rfl⟩ ⟨rfl, rfl⟩ ⟨Nat.zero_le _, Nat.zero_le _⟩ rfl (Nat.le_of_ble_eq_true rfl) ?_
      refine r_istore (ls2 := [(4, vI r8), (0, vR (18, 0, 0)), (1, vR (7, q1, 0)), (2, vI c2), (3, vI v3)]) C dX4_rollAll_40 (by decide) rfl ?_
      refine r_aload_n C 1 0 dX4_rollAll_42 rfl rfl ?_
      refine r_getR (kf := 1) (d2 := (19, 1, 0)) C dX4_rollAll_43 rfl rfl f_X4 (by decide) t_2_30 rfl rfl ?_
      refine r_iload C 0 dX4_rollAll_46 rfl ?_
      obtain ⟨r11, σ10, e12, hF⟩ := bd_e hF
      refine r_callN_i (as := [vI r8]) (st := [vR (19, 1, 0)]) C dX4_rollAll_48 (s_X10_isCell G l e12) (by decide) t_3_121 t_1_1 t_3_122 m_X10_isCell ⟨Nat.le_of_ble_eq_true rfl, Nat.le_of_ble_eq_true rfl⟩ ⟨rfl, rfl⟩ ⟨Nat.zero_le _, Nat.zero_le _⟩ rfl (Nat.le_of_ble_eq_true rfl) ?_
      obtain ⟨k14, ek14, hF⟩ := nam_e hF
      have hk14 : ∀ (y13 : Int32) (σ15 : St), k14 y13 σ15 = some ((), σ') → Rt G p l e (lvl 2) s m args below meth c 0 0 (MQ below (va_Qv (fun b => b = σ') (Wd G) (AG G)) args s 0 0 (AG G)) 5 60 [(0, vR (18, 0, 0)), (1, vR (7, q1, 0)), (2, vI c2), (3, vI v3)] [vI y13, vR (19, 1, 0)] σ15 := by
        intro y13 σ15 hF
        subst ek14
        refine r_dup2_ri C dX4_rollAll_60 ?_
        obtain ⟨h16, hF⟩ := ck_e hF
        refine r_laload C (y13.toNatClampNeg) dX4_rollAll_61 rfl h16 rfl ?_
        refine r_aload_n C 0 0 dX4_rollAll_62 rfl rfl ?_
        refine r_getR (kf := 0) (d2 := (19, 0, 0)) C dX4_rollAll_63 rfl rfl f_X4 (by decide) t_2_29 rfl rfl ?_
        refine r_iload_n C 2 2 dX4_rollAll_66 rfl rfl ?_
        obtain ⟨h17, hF⟩ := ck_e hF
        refine r_laload C (c2.toNatClampNeg) dX4_rollAll_67 rfl h17 rfl ?_
        refine r_ladd C dX4_rollAll_68 ?_
        obtain ⟨h18, hF⟩ := ck_e hF
        obtain ⟨σ19, eσ19, hF⟩ := nam_e hF
        refine r_lastore C (y13.toNatClampNeg) dX4_rollAll_69 rfl h18 rfl eσ19 ?_
        obtain ⟨x20, ex20, hF⟩ := nam_e hF
        refine r_iinc (v := x20) (ls2 := [(3, vI x20), (0, vR (18, 0, 0)), (1, vR (7, q1, 0)), (2, vI c2)]) C 3 dX4_rollAll_70 rfl ex20.symm (by decide) rfl ?_
        refine r_goto C 29 dX4_rollAll_73 (by decide) ?_
        refine r_drop (ls2 := [(0, vR (18, 0, 0)), (1, vR (7, q1, 0)), (2, vI c2), (3, vI x20)]) [1, 2, 3, 0] rfl ?_
        exact ih _ _ hF
      refine r_if_eq C 59 dX4_rollAll_51 (by decide)  (fun h21 => ?_) (fun h21 => ?_)
      · have hF := if_t h21 hF
        refine r_iload_n C 3 2 dX4_rollAll_59 rfl rfl ?_
        refine r_drop (ls2 := [(0, vR (18, 0, 0)), (1, vR (7, q1, 0)), (2, vI c2), (3, vI v3)]) [1, 2, 3, 4] rfl ?_
        exact hk14 _ _ hF
      · have hF := if_f h21 hF
        refine r_iload C 0 dX4_rollAll_54 rfl ?_
        refine r_goto C 60 dX4_rollAll_56 (by decide) ?_
        refine r_drop (ls2 := [(0, vR (18, 0, 0)), (1, vR (7, q1, 0)), (2, vI c2), (3, vI v3)]) [1, 2, 3, 4] rfl ?_
        exact hk14 _ _ hF
set_option maxRecDepth 20000 in
set_option maxHeartbeats 4000000 in
theorem l_X4_rollAll_10 {G : Gx} {p : Program} {l : Launch} {e : Env} {s : State} {m : MethodId} {args : Array Value} {below : List Frame} {meth : Method} {c : Code} (C : Cx G p s m args meth c none 5 RX4 cX4_rollAll) (q1 : Nat) {σ' : St}  (kx82 : St → Option (Unit × St)) (hkx82 : ∀  (τ : St), kx82  τ = some ((), σ') → Rt G p l e (lvl 2) s m args below meth c 0 0 (MQ below (va_Qv (fun b => b = σ') (Wd G) (AG G)) args s 0 0 (AG G)) 5 82 [(0, vR (18, 0, 0))] [] τ) : ∀ (n : Nat) (v2 : Int32) (τ : St), L_X4_rollAll_10 q1 n v2 τ kx82 = some ((), σ') → Rt G p l e (lvl 2) s m args below meth c 0 0 (MQ below (va_Qv (fun b => b = σ') (Wd G) (AG G)) args s 0 0 (AG G)) 5 10 [(0, vR (18, 0, 0)), (1, vR (7, q1, 0)), (2, vI v2)] [] τ := by
  intro n
  induction n with
  | zero => intro v2 τ hF; cases hF
  | succ n ih =>
    intro v2 τ hF
    unfold L_X4_rollAll_10 at hF
    refine r_iload_n C 2 2 dX4_rollAll_10 rfl rfl ?_
    refine r_bipush (v := (96 : Int32)) C dX4_rollAll_11 rfl ?_
    refine r_icmp_ge C 82 dX4_rollAll_13 (by decide)  (fun h25 => ?_) (fun h25 => ?_)
    · have hF := if_t h25 hF
      refine r_drop (ls2 := [(0, vR (18, 0, 0))]) [0] rfl ?_
      exact hkx82 _ hF
    · have hF := if_f h25 hF
      refine r_aload_n C 0 0 dX4_rollAll_16 rfl rfl ?_
      refine r_getR (kf := 0) (d2 := (19, 0, 0)) C dX4_rollAll_17 rfl rfl f_X4 (by decide) t_2_29 rfl rfl ?_
      refine r_iload_n C 2 2 dX4_rollAll_20 rfl rfl ?_
      obtain ⟨h3, hF⟩ := ck_e hF
      refine r_laload C (v2.toNatClampNeg) dX4_rollAll_21 rfl h3 rfl ?_
      refine r_lconst (v := (0 : Int64)) C dX4_rollAll_22 rfl ?_
      refine r_lcmp C dX4_rollAll_23 ?_
      obtain ⟨k4, ek4, hF⟩ := nam_e hF
      have hk4 : ∀  (σ5 : St), k4  σ5 = some ((), σ') → Rt G p l e (lvl 2) s m args below meth c 0 0 (MQ below (va_Qv (fun b => b = σ') (Wd G) (AG G)) args s 0 0 (AG G)) 5 76 [(0, vR (18, 0, 0)), (1, vR (7, q1, 0)), (2, vI v2)] [] σ5 := by
        intro  σ5 hF
        subst ek4
        obtain ⟨x6, ex6, hF⟩ := nam_e hF
        refine r_iinc (v := x6) (ls2 := [(2, vI x6), (0, vR (18, 0, 0)), (1, vR (7, q1, 0))]) C 2 dX4_rollAll_76 rfl ex6.symm (by decide) rfl ?_
        refine r_goto C 10 dX4_rollAll_79 (by decide) ?_
        refine r_drop (ls2 := [(0, vR (18, 0, 0)), (1, vR (7, q1, 0)), (2, vI x6)]) [1, 2, 0] rfl ?_
        exact ih _ _ hF
      refine r_if_eq C 76 dX4_rollAll_24 (by decide)  (fun h24 => ?_) (fun h24 => ?_)
      · have hF := if_t h24 hF
        exact hk4 _ hF
      · have hF := if_f h24 hF
        refine r_iconst (v := (0 : Int32)) C dX4_rollAll_27 rfl ?_
        refine r_istore_n (ls2 := [(3, vI (0 : Int32)), (0, vR (18, 0, 0)), (1, vR (7, q1, 0)), (2, vI v2)]) C dX4_rollAll_28 3 rfl (by decide) rfl ?_
        refine r_drop (ls2 := [(0, vR (18, 0, 0)), (1, vR (7, q1, 0)), (2, vI v2), (3, vI (0 : Int32))]) [1, 2, 3, 0] rfl ?_
        refine l_X4_rollAll_29 C q1 v2 _ ?_ _ _ _ hF
        · intro  σ23 hF
          exact hk4 _ hF
set_option maxRecDepth 20000 in
set_option maxHeartbeats 4000000 in
theorem s_X4_rollAll (G : Gx) (l : Launch) {q1 : Nat} {σ σ' : St}  (hF : F_X4_rollAll q1 σ = some ((), σ')) : Sp G l yX4_rollAll cX4_rollAll 5 none (lvl 2) [vR (18, 0, 0), vR (7, q1, 0)] σ (va_Qv (fun b => b = σ') (Wd G) (AG G)) := by
  refine Sp_of (own := RX4) (by decide) rfl (Nat.le_of_ble_eq_true rfl) ?_
  intro p e s m args below meth c C
  show Rt G p l e (lvl 2) s m args below meth c 0 0 (MQ below (va_Qv (fun b => b = σ') (Wd G) (AG G)) args s 0 0 (AG G)) 5 0 [(0, vR (18, 0, 0)), (1, vR (7, q1, 0))] [] σ
  unfold F_X4_rollAll at hF
  refine r_aload_n C 0 0 dX4_rollAll_0 rfl rfl ?_
  refine r_getR (kf := 1) (d2 := (19, 1, 0)) C dX4_rollAll_1 rfl rfl f_X4 (by decide) t_2_30 rfl rfl ?_
  refine r_lconst (v := (0 : Int64)) C dX4_rollAll_4 rfl ?_
  obtain ⟨⟨⟩, σ1, e2, hF⟩ := bd_e hF
  refine r_callS_v (as := [vR (19, 1, 0), vL (0 : Int64)]) (st := []) C dX4_rollAll_5 (s_J7_fill_d0a16_t19 G l e2) t_4_170 t_4_171 t_1_6 t_4_172 m_J7_fill_d0a16 ⟨Nat.le_of_ble_eq_true rfl, Nat.le_of_ble_eq_true rfl⟩ ⟨rfl, rfl⟩ ⟨Nat.zero_le _, Nat.zero_le _⟩ rfl (Nat.le_of_ble_eq_true rfl) ?_
  refine r_iconst (v := (0 : Int32)) C dX4_rollAll_8 rfl ?_
  refine r_istore_n (ls2 := [(2, vI (0 : Int32)), (0, vR (18, 0, 0)), (1, vR (7, q1, 0))]) C dX4_rollAll_9 2 rfl (by decide) rfl ?_
  refine r_drop (ls2 := [(0, vR (18, 0, 0)), (1, vR (7, q1, 0)), (2, vI (0 : Int32))]) [1, 2, 0] rfl ?_
  refine l_X4_rollAll_10 C q1 _ ?_ _ _ _ hF
  · intro  σ26 hF
    refine r_aload_n C 0 0 dX4_rollAll_82 rfl rfl ?_
    refine r_getR (kf := 1) (d2 := (19, 1, 0)) C dX4_rollAll_83 rfl rfl f_X4 (by decide) t_2_30 rfl rfl ?_
    refine r_iconst (v := (0 : Int32)) C dX4_rollAll_86 rfl ?_
    refine r_aload_n C 0 0 dX4_rollAll_87 rfl rfl ?_
    refine r_getR (kf := 0) (d2 := (19, 0, 0)) C dX4_rollAll_88 rfl rfl f_X4 (by decide) t_2_29 rfl rfl ?_
    refine r_iconst (v := (0 : Int32)) C dX4_rollAll_91 rfl ?_
    refine r_bipush (v := (96 : Int32)) C dX4_rollAll_92 rfl ?_
    obtain ⟨h27, hF⟩ := ck_e hF
    obtain ⟨σ28, eσ28, hF⟩ := nam_e hF
    refine r_copyJ C dX4_rollAll_94 rfl rfl t_4_188 t_1_49 t_1_48 t_1_4 ⟨Nat.le_of_ble_eq_true rfl, Nat.le_of_ble_eq_true rfl⟩ h27 eσ28 ?_
    exact r_return C dX4_rollAll_97 (rv_e hF)
def L_X4_beenIn_37 (q1 : Nat) (c3 : Int32) (c4 : Int32) : Nat → Int64 → Int32 → St → (Int64 → St → Option (Int64 × St)) → Option (Int64 × St)
  | 0, _, _, _, _ => none
  | n + 1, v5, v7, τ, kx69 =>
  (if c4 ≤ v7 then kx69 v5 τ else bd (F_X4_takeOut c3 τ) fun r12 σ11 => bd (F_X4_rollAll q1 σ11) fun _ σ14 => nam (v7 + (1 : Int32)) fun x16 => L_X4_beenIn_37 q1 c3 c4 n ((4 : Int64) * (v5 + r12)) x16 σ14 kx69)
def F_X4_beenIn (q1 : Nat) (a2 : Int32) (a3 : Int32) (a4 : Int32) (σ : St) : Option (Int64 × St) :=
  bd (F_X10_isCell a2 σ) fun r2 σ1 => (if r2 = 0 then some ((0 : Int64), σ1) else bd (F_X10_isCell a3 σ1) fun r5 σ4 => (if r5 = 0 then some ((0 : Int64), σ4) else bd (F_J7_fill_d0a16_t19 0 (0 : Int64) σ4) fun _ σ7 => ck (inb a2 96) (nam (uL σ7 (19, 0, 0) (a2.toNatClampNeg) (1 : Int64)) fun σ10 => L_X4_beenIn_37 q1 a3 a4 FU (0 : Int64) (0 : Int32) σ10 (fun (y19 : Int64) (σ18 : St) => bd (F_X4_takeOut a3 σ18) fun r21 σ20 => some (y19 + r21, σ20)))))
set_option maxRecDepth 20000 in
set_option maxHeartbeats 4000000 in
theorem l_X4_beenIn_37 {G : Gx} {p : Program} {l : Launch} {e : Env} {s : State} {m : MethodId} {args : Array Value} {below : List Frame} {meth : Method} {c : Code} (C : Cx G p s m args meth c (some .long) 8 RX4 cX4_beenIn) (q1 : Nat) (c3 : Int32) (c4 : Int32) {σ' : St} {r : Int64} (kx69 : Int64 → St → Option (Int64 × St)) (hkx69 : ∀ (w5 : Int64) (τ : St), kx69 w5 τ = some (r, σ') → Rt G p l e (lvl 3) s m args below meth c 0 0 (MQ below (va_Ql (fun a b => a = r ∧ b = σ') (Wd G) (AG G)) args s 0 0 (AG G)) 8 69 [(0, vR (18, 0, 0)), (3, vI c3), (5, vL w5)] [] τ) : ∀ (n : Nat) (v5 : Int64) (v7 : Int32) (τ : St), L_X4_beenIn_37 q1 c3 c4 n v5 v7 τ kx69 = some (r, σ') → Rt G p l e (lvl 3) s m args below meth c 0 0 (MQ below (va_Ql (fun a b => a = r ∧ b = σ') (Wd G) (AG G)) args s 0 0 (AG G)) 8 37 [(0, vR (18, 0, 0)), (1, vR (7, q1, 0)), (3, vI c3), (4, vI c4), (5, vL v5), (7, vI v7)] [] τ := by
  intro n
  induction n with
  | zero => intro v5 v7 τ hF; cases hF
  | succ n ih =>
    intro v5 v7 τ hF
    unfold L_X4_beenIn_37 at hF
    refine r_iload C 5 dX4_beenIn_37 rfl ?_
    refine r_iload C 3 dX4_beenIn_39 rfl ?_
    refine r_icmp_ge C 69 dX4_beenIn_41 (by decide)  (fun h17 => ?_) (fun h17 => ?_)
    · have hF := if_t h17 hF
      refine r_drop (ls2 := [(0, vR (18, 0, 0)), (3, vI c3), (5, vL v5)]) [0, 2, 4] rfl ?_
      exact hkx69 _ _ hF
    · have hF := if_f h17 hF
      refine r_ldc2_w (v := (4 : Int64)) C dX4_beenIn_44 t_4_173 ?_
      refine r_lload C 4 dX4_beenIn_47 rfl ?_
      refine r_aload_n C 0 0 dX4_beenIn_49 rfl rfl ?_
      refine r_iload_n C 2 3 dX4_beenIn_50 rfl rfl ?_
      obtain ⟨r12, σ11, e13, hF⟩ := bd_e hF
      refine r_callV_l (as := [vI c3]) (st := [vL v5, vL (4 : Int64)]) C dX4_beenIn_51 (s_X4_takeOut G l e13) rfl rfl rfl t_4_174 t_4_176 t_s_18 t_1_10 t_4_177 m_X4_takeOut ⟨Nat.le_of_ble_eq_true rfl, Nat.le_of_ble_eq_true rfl⟩ ⟨rfl, rfl⟩ ⟨Nat.zero_le _, Nat.zero_le _⟩ rfl (Nat.le_of_ble_eq_true rfl) ?_
      refine r_ladd C dX4_beenIn_54 ?_
      refine r_lmul C dX4_beenIn_55 ?_
      refine r_lstore (ls2 := [(5, vL ((4 : Int64) * (v5 + r12))), (0, vR (18, 0, 0)), (1, vR (7, q1, 0)), (3, vI c3), (4, vI c4), (7, vI v7)]) C dX4_beenIn_56 (by decide) rfl ?_
      refine r_aload_n C 1 0 dX4_beenIn_58 rfl rfl ?_
      refine r_aload_n C 2 1 dX4_beenIn_59 rfl rfl ?_
      obtain ⟨⟨⟩, σ14, e15, hF⟩ := bd_e hF
      refine r_callV_v (as := [vR (7, q1, 0)]) (st := []) C dX4_beenIn_60 (s_X4_rollAll G l e15) rfl rfl rfl t_4_178 t_4_180 t_s_19 t_1_10 t_4_181 m_X4_rollAll ⟨Nat.le_of_ble_eq_true rfl, Nat.le_of_ble_eq_true rfl⟩ ⟨rfl, rfl⟩ ⟨Nat.zero_le _, Nat.zero_le _⟩ rfl (Nat.le_of_ble_eq_true rfl) ?_
      obtain ⟨x16, ex16, hF⟩ := nam_e hF
      refine r_iinc (v := x16) (ls2 := [(7, vI x16), (5, vL ((4 : Int64) * (v5 + r12))), (0, vR (18, 0, 0)), (1, vR (7, q1, 0)), (3, vI c3), (4, vI c4)]) C 5 dX4_beenIn_63 rfl ex16.symm (by decide) rfl ?_
      refine r_goto C 37 dX4_beenIn_66 (by decide) ?_
      refine r_drop (ls2 := [(0, vR (18, 0, 0)), (1, vR (7, q1, 0)), (3, vI c3), (4, vI c4), (5, vL ((4 : Int64) * (v5 + r12))), (7, vI x16)]) [2, 3, 4, 5, 1, 0] rfl ?_
      exact ih _ _ _ hF
set_option maxRecDepth 20000 in
set_option maxHeartbeats 4000000 in
theorem s_X4_beenIn (G : Gx) (l : Launch) {q1 : Nat} {a2 : Int32} {a3 : Int32} {a4 : Int32} {σ σ' : St} {r : Int64} (hF : F_X4_beenIn q1 a2 a3 a4 σ = some (r, σ')) : Sp G l yX4_beenIn cX4_beenIn 8 (some .long) (lvl 3) [vR (18, 0, 0), vR (7, q1, 0), vI a2, vI a3, vI a4] σ (va_Ql (fun a b => a = r ∧ b = σ') (Wd G) (AG G)) := by
  refine Sp_of (own := RX4) (by decide) rfl (Nat.le_of_ble_eq_true rfl) ?_
  intro p e s m args below meth c C
  show Rt G p l e (lvl 3) s m args below meth c 0 0 (MQ below (va_Ql (fun a b => a = r ∧ b = σ') (Wd G) (AG G)) args s 0 0 (AG G)) 8 0 [(0, vR (18, 0, 0)), (1, vR (7, q1, 0)), (2, vI a2), (3, vI a3), (4, vI a4)] [] σ
  unfold F_X4_beenIn at hF
  refine r_iload_n C 2 2 dX4_beenIn_0 rfl rfl ?_
  obtain ⟨r2, σ1, e3, hF⟩ := bd_e hF
  refine r_callN_i (as := [vI a2]) (st := []) C dX4_beenIn_1 (s_X10_isCell G l e3) (by decide) t_3_121 t_1_1 t_3_122 m_X10_isCell ⟨Nat.le_of_ble_eq_true rfl, Nat.le_of_ble_eq_true rfl⟩ ⟨rfl, rfl⟩ ⟨Nat.zero_le _, Nat.zero_le _⟩ rfl (Nat.le_of_ble_eq_true rfl) ?_
  refine r_if_eq C 14 dX4_beenIn_4 (by decide)  (fun h24 => ?_) (fun h24 => ?_)
  · have hF := if_t h24 hF
    refine r_lconst (v := (0 : Int64)) C dX4_beenIn_14 rfl ?_
    exact r_lreturn C dX4_beenIn_15 (rt_e hF)
  · have hF := if_f h24 hF
    refine r_iload_n C 3 3 dX4_beenIn_7 rfl rfl ?_
    obtain ⟨r5, σ4, e6, hF⟩ := bd_e hF
    refine r_callN_i (as := [vI a3]) (st := []) C dX4_beenIn_8 (s_X10_isCell G l e6) (by decide) t_3_121 t_1_1 t_3_122 m_X10_isCell ⟨Nat.le_of_ble_eq_true rfl, Nat.le_of_ble_eq_true rfl⟩ ⟨rfl, rfl⟩ ⟨Nat.zero_le _, Nat.zero_le _⟩ rfl (Nat.le_of_ble_eq_true rfl) ?_
    refine r_if_ne C 16 dX4_beenIn_11 (by decide)  (fun h23 => ?_) (fun h23 => ?_)
    · have hF := if_f h23 hF
      refine r_aload_n C 0 0 dX4_beenIn_16 rfl rfl ?_
      refine r_getR (kf := 0) (d2 := (19, 0, 0)) C dX4_beenIn_17 rfl rfl f_X4 (by decide) t_2_29 rfl rfl ?_
      refine r_lconst (v := (0 : Int64)) C dX4_beenIn_20 rfl ?_
      obtain ⟨⟨⟩, σ7, e8, hF⟩ := bd_e hF
      refine r_callS_v (as := [vR (19, 0, 0), vL (0 : Int64)]) (st := []) C dX4_beenIn_21 (s_J7_fill_d0a16_t19 G l e8) t_4_170 t_4_171 t_1_6 t_4_172 m_J7_fill_d0a16 ⟨Nat.le_of_ble_eq_true rfl, Nat.le_of_ble_eq_true rfl⟩ ⟨rfl, rfl⟩ ⟨Nat.zero_le _, Nat.zero_le _⟩ rfl (Nat.le_of_ble_eq_true rfl) ?_
      refine r_aload_n C 0 0 dX4_beenIn_24 rfl rfl ?_
      refine r_getR (kf := 0) (d2 := (19, 0, 0)) C dX4_beenIn_25 rfl rfl f_X4 (by decide) t_2_29 rfl rfl ?_
      refine r_iload_n C 2 2 dX4_beenIn_28 rfl rfl ?_
      refine r_lconst (v := (1 : Int64)) C dX4_beenIn_29 rfl ?_
      obtain ⟨h9, hF⟩ := ck_e hF
      obtain ⟨σ10, eσ10, hF⟩ := nam_e hF
      refine r_lastore C (a2.toNatClampNeg) dX4_beenIn_30 rfl h9 rfl eσ10 ?_
      refine r_lconst (v := (0 : Int64)) C dX4_beenIn_31 rfl ?_
      refine r_lstore (ls2 := [(5, vL (0 : Int64)), (0, vR (18, 0, 0)), (1, vR (7, q1, 0)), (2, vI a2), (3, vI a3), (4, vI a4)]) C dX4_beenIn_32 (by decide) rfl ?_
      refine r_iconst (v := (0 : Int32)) C dX4_beenIn_34 rfl ?_
      refine r_istore (ls2 := [(7, vI (0 : Int32)), (5, vL (0 : Int64)), (0, vR (18, 0, 0)), (1, vR (7, q1, 0)), (2, vI a2), (3, vI a3), (4, vI a4)]) C dX4_beenIn_35 (by decide) rfl ?_
      refine r_drop (ls2 := [(0, vR (18, 0, 0)), (1, vR (7, q1, 0)), (3, vI a3), (4, vI a4), (5, vL (0 : Int64)), (7, vI (0 : Int32))]) [2, 3, 5, 6, 1, 0] rfl ?_
      refine l_X4_beenIn_37 C q1 a3 a4 _ ?_ _ _ _ _ hF
      · intro y19 σ18 hF
        refine r_lload C 2 dX4_beenIn_69 rfl ?_
        refine r_aload_n C 0 0 dX4_beenIn_71 rfl rfl ?_
        refine r_iload_n C 1 3 dX4_beenIn_72 rfl rfl ?_
        obtain ⟨r21, σ20, e22, hF⟩ := bd_e hF
        refine r_callV_l (as := [vI a3]) (st := [vL y19]) C dX4_beenIn_73 (s_X4_takeOut G l e22) rfl rfl rfl t_4_174 t_4_176 t_s_18 t_1_10 t_4_177 m_X4_takeOut ⟨Nat.le_of_ble_eq_true rfl, Nat.le_of_ble_eq_true rfl⟩ ⟨rfl, rfl⟩ ⟨Nat.zero_le _, Nat.zero_le _⟩ rfl (Nat.le_of_ble_eq_true rfl) ?_
        refine r_ladd C dX4_beenIn_76 ?_
        exact r_lreturn C dX4_beenIn_77 (rt_e hF)
    · have hF := if_t h23 hF
      refine r_lconst (v := (0 : Int64)) C dX4_beenIn_14 rfl ?_
      exact r_lreturn C dX4_beenIn_15 (rt_e hF)
def L_X10_odds_80 (c3 : Int32) (c4 : Int32) : Nat → Int64 → Int64 → Int32 → St → (Int64 → Int64 → St → Option (Int64 × St)) → Option (Int64 × St)
  | 0, _, _, _, _, _ => none
  | n + 1, v5, v7, v9, τ, kx115 =>
  (if ((2 : Int32) * c3) ≤ v9 then kx115 v5 v7 τ else (if (lg_cmp (v5 &&& (1 : Int64)) (0 : Int64)) = 0 then nam (v5 >>> ((1 : Int32).toInt64 &&& 63)) fun x19 => nam (v7 >>> ((1 : Int32).toInt64 &&& 63)) fun x20 => nam (v9 + (1 : Int32)) fun x21 => L_X10_odds_80 c3 c4 n x19 x20 x21 τ kx115 else kx115 v5 v7 τ))
def F_X10_odds (a1 : Int32) (a2 : Int32) (a3 : Int32) (a4 : Int32) (σ : St) : Option (Int64 × St) :=
  bd (F_X10_isCell a1 σ) fun r2 σ1 => (if r2 = 0 then some ((-1 : Int64), σ1) else bd (F_X10_isCell a2 σ1) fun r5 σ4 => (if r5 = 0 then some ((-1 : Int64), σ4) else bd (F_X10_within a3 (0 : Int32) (10 : Int32) σ4) fun r8 σ7 => (if r8 = 0 then some ((-1 : Int64), σ7) else bd (F_X10_within a4 (0 : Int32) (1 : Int32) σ7) fun r11 σ10 => (if r11 = 0 then some ((-1 : Int64), σ10) else bd (F_X6_kindAt 0 a1 σ10) fun r14 σ13 => (if r14 = (5 : Int32) then some ((-2 : Int64), σ13) else bd (F_X4_beenIn 0 a1 a2 a3 σ13) fun r17 σ16 => L_X10_odds_80 a3 a4 FU r17 ((1 : Int64) <<< (((2 : Int32) * a3).toInt64 &&& 63)) (0 : Int32) σ16 (fun (y25 : Int64) (y26 : Int64) (σ24 : St) => (if a4 = 0 then some (y25, σ24) else some (y26, σ24))))))))
set_option maxRecDepth 20000 in
set_option maxHeartbeats 4000000 in
theorem l_X10_odds_80 {G : Gx} {p : Program} {l : Launch} {e : Env} {s : State} {m : MethodId} {args : Array Value} {below : List Frame} {meth : Method} {c : Code} (C : Cx G p s m args meth c (some .long) 10 RX10 cX10_odds) (c3 : Int32) (c4 : Int32) {σ' : St} {r : Int64} (kx115 : Int64 → Int64 → St → Option (Int64 × St)) (hkx115 : ∀ (w5 : Int64) (w7 : Int64) (τ : St), kx115 w5 w7 τ = some (r, σ') → Rt G p l e (lvl 4) s m args below meth c 0 0 (MQ below (va_Ql (fun a b => a = r ∧ b = σ') (Wd G) (AG G)) args s 0 0 (AG G)) 10 115 [(4, vI c4), (5, vL w5), (7, vL w7)] [] τ) : ∀ (n : Nat) (v5 : Int64) (v7 : Int64) (v9 : Int32) (τ : St), L_X10_odds_80 c3 c4 n v5 v7 v9 τ kx115 = some (r, σ') → Rt G p l e (lvl 4) s m args below meth c 0 0 (MQ below (va_Ql (fun a b => a = r ∧ b = σ') (Wd G) (AG G)) args s 0 0 (AG G)) 10 80 [(3, vI c3), (4, vI c4), (5, vL v5), (7, vL v7), (9, vI v9)] [] τ := by
  intro n
  induction n with
  | zero => intro v5 v7 v9 τ hF; cases hF
  | succ n ih =>
    intro v5 v7 v9 τ hF
    unfold L_X10_odds_80 at hF
    refine r_iload C 4 dX10_odds_80 rfl ?_
    refine r_iconst (v := (2 : Int32)) C dX10_odds_82 rfl ?_
    refine r_iload_n C 0 3 dX10_odds_83 rfl rfl ?_
    refine r_imul C dX10_odds_84 ?_
    refine r_icmp_ge C 115 dX10_odds_85 (by decide)  (fun h23 => ?_) (fun h23 => ?_)
    · have hF := if_t h23 hF
      refine r_drop (ls2 := [(4, vI c4), (5, vL v5), (7, vL v7)]) [1, 2, 3] rfl ?_
      exact hkx115 _ _ _ hF
    · have hF := if_f h23 hF
      refine r_lload C 2 dX10_odds_88 rfl ?_
      refine r_lconst (v := (1 : Int64)) C dX10_odds_90 rfl ?_
      refine r_land C dX10_odds_91 ?_
      refine r_lconst (v := (0 : Int64)) C dX10_odds_92 rfl ?_
      refine r_lcmp C dX10_odds_93 ?_
      refine r_if_ne C 115 dX10_odds_94 (by decide)  (fun h22 => ?_) (fun h22 => ?_)
      · have hF := if_f h22 hF
        refine r_drop (ls2 := [(4, vI c4), (5, vL v5), (7, vL v7)]) [1, 2, 3] rfl ?_
        exact hkx115 _ _ _ hF
      · have hF := if_t h22 hF
        refine r_lload C 2 dX10_odds_97 rfl ?_
        refine r_iconst (v := (1 : Int32)) C dX10_odds_99 rfl ?_
        refine r_lshr C dX10_odds_100 ?_
        obtain ⟨x19, ex19, hF⟩ := nam_e hF
        refine r_topL ex19 ?_
        refine r_lstore (ls2 := [(5, vL x19), (3, vI c3), (4, vI c4), (7, vL v7), (9, vI v9)]) C dX10_odds_101 (by decide) rfl ?_
        refine r_lload C 3 dX10_odds_103 rfl ?_
        refine r_iconst (v := (1 : Int32)) C dX10_odds_105 rfl ?_
        refine r_lshr C dX10_odds_106 ?_
        obtain ⟨x20, ex20, hF⟩ := nam_e hF
        refine r_topL ex20 ?_
        refine r_lstore (ls2 := [(7, vL x20), (5, vL x19), (3, vI c3), (4, vI c4), (9, vI v9)]) C dX10_odds_107 (by decide) rfl ?_
        obtain ⟨x21, ex21, hF⟩ := nam_e hF
        refine r_iinc (v := x21) (ls2 := [(9, vI x21), (7, vL x20), (5, vL x19), (3, vI c3), (4, vI c4)]) C 4 dX10_odds_109 rfl ex21.symm (by decide) rfl ?_
        refine r_goto C 80 dX10_odds_112 (by decide) ?_
        refine r_drop (ls2 := [(3, vI c3), (4, vI c4), (5, vL x19), (7, vL x20), (9, vI x21)]) [3, 4, 2, 1, 0] rfl ?_
        exact ih _ _ _ _ hF
set_option maxRecDepth 20000 in
set_option maxHeartbeats 4000000 in
theorem s_X10_odds (G : Gx) (l : Launch) {a1 : Int32} {a2 : Int32} {a3 : Int32} {a4 : Int32} {σ σ' : St} {r : Int64} (hF : F_X10_odds a1 a2 a3 a4 σ = some (r, σ')) : Sp G l yX10_odds cX10_odds 10 (some .long) (lvl 4) [vR (0, 0, 0), vI a1, vI a2, vI a3, vI a4] σ (va_Ql (fun a b => a = r ∧ b = σ') (Wd G) (AG G)) := by
  refine Sp_of (own := RX10) (by decide) rfl (Nat.le_of_ble_eq_true rfl) ?_
  intro p e s m args below meth c C
  show Rt G p l e (lvl 4) s m args below meth c 0 0 (MQ below (va_Ql (fun a b => a = r ∧ b = σ') (Wd G) (AG G)) args s 0 0 (AG G)) 10 0 [(0, vR (0, 0, 0)), (1, vI a1), (2, vI a2), (3, vI a3), (4, vI a4)] [] σ
  unfold F_X10_odds at hF
  refine r_iload_n C 1 1 dX10_odds_0 rfl rfl ?_
  obtain ⟨r2, σ1, e3, hF⟩ := bd_e hF
  refine r_callS_i (as := [vI a1]) (st := []) C dX10_odds_1 (s_X10_isCell G l e3) t_3_120 t_3_121 t_1_1 t_3_122 m_X10_isCell ⟨Nat.le_of_ble_eq_true rfl, Nat.le_of_ble_eq_true rfl⟩ ⟨rfl, rfl⟩ ⟨Nat.zero_le _, Nat.zero_le _⟩ rfl (Nat.le_of_ble_eq_true rfl) ?_
  refine r_if_eq C 34 dX10_odds_4 (by decide)  (fun h32 => ?_) (fun h32 => ?_)
  · have hF := if_t h32 hF
    refine r_ldc2_w (v := (-1 : Int64)) C dX10_odds_34 t_4_100 ?_
    exact r_lreturn C dX10_odds_37 (rt_e hF)
  · have hF := if_f h32 hF
    refine r_iload_n C 2 2 dX10_odds_7 rfl rfl ?_
    obtain ⟨r5, σ4, e6, hF⟩ := bd_e hF
    refine r_callS_i (as := [vI a2]) (st := []) C dX10_odds_8 (s_X10_isCell G l e6) t_3_120 t_3_121 t_1_1 t_3_122 m_X10_isCell ⟨Nat.le_of_ble_eq_true rfl, Nat.le_of_ble_eq_true rfl⟩ ⟨rfl, rfl⟩ ⟨Nat.zero_le _, Nat.zero_le _⟩ rfl (Nat.le_of_ble_eq_true rfl) ?_
    refine r_if_eq C 34 dX10_odds_11 (by decide)  (fun h31 => ?_) (fun h31 => ?_)
    · have hF := if_t h31 hF
      refine r_ldc2_w (v := (-1 : Int64)) C dX10_odds_34 t_4_100 ?_
      exact r_lreturn C dX10_odds_37 (rt_e hF)
    · have hF := if_f h31 hF
      refine r_iload_n C 3 3 dX10_odds_14 rfl rfl ?_
      refine r_iconst (v := (0 : Int32)) C dX10_odds_15 rfl ?_
      refine r_bipush (v := (10 : Int32)) C dX10_odds_16 rfl ?_
      obtain ⟨r8, σ7, e9, hF⟩ := bd_e hF
      refine r_callS_i (as := [vI a3, vI (0 : Int32), vI (10 : Int32)]) (st := []) C dX10_odds_18 (s_X10_within G l e9) t_2_143 t_2_144 t_1_1 t_2_145 m_X10_within ⟨Nat.le_of_ble_eq_true rfl, Nat.le_of_ble_eq_true rfl⟩ ⟨rfl, rfl⟩ ⟨Nat.zero_le _, Nat.zero_le _⟩ rfl (Nat.le_of_ble_eq_true rfl) ?_
      refine r_if_eq C 34 dX10_odds_21 (by decide)  (fun h30 => ?_) (fun h30 => ?_)
      · have hF := if_t h30 hF
        refine r_ldc2_w (v := (-1 : Int64)) C dX10_odds_34 t_4_100 ?_
        exact r_lreturn C dX10_odds_37 (rt_e hF)
      · have hF := if_f h30 hF
        refine r_iload C 4 dX10_odds_24 rfl ?_
        refine r_iconst (v := (0 : Int32)) C dX10_odds_26 rfl ?_
        refine r_iconst (v := (1 : Int32)) C dX10_odds_27 rfl ?_
        obtain ⟨r11, σ10, e12, hF⟩ := bd_e hF
        refine r_callS_i (as := [vI a4, vI (0 : Int32), vI (1 : Int32)]) (st := []) C dX10_odds_28 (s_X10_within G l e12) t_2_143 t_2_144 t_1_1 t_2_145 m_X10_within ⟨Nat.le_of_ble_eq_true rfl, Nat.le_of_ble_eq_true rfl⟩ ⟨rfl, rfl⟩ ⟨Nat.zero_le _, Nat.zero_le _⟩ rfl (Nat.le_of_ble_eq_true rfl) ?_
        refine r_if_ne C 38 dX10_odds_31 (by decide)  (fun h29 => ?_) (fun h29 => ?_)
        · have hF := if_f h29 hF
          refine r_aload_n C 0 0 dX10_odds_38 rfl rfl ?_
          refine r_getR (kf := 5) (d2 := (7, 0, 0)) C dX10_odds_39 rfl rfl f_X10 (by decide) t_2_100 rfl rfl ?_
          refine r_iload_n C 1 1 dX10_odds_42 rfl rfl ?_
          obtain ⟨r14, σ13, e15, hF⟩ := bd_e hF
          refine r_callV_i (as := [vI a1]) (st := []) C dX10_odds_43 (s_X6_kindAt G l e15) rfl rfl rfl t_3_123 t_3_124 t_3_125 t_1_5 t_3_126 m_X6_kindAt ⟨Nat.le_of_ble_eq_true rfl, Nat.le_of_ble_eq_true rfl⟩ ⟨rfl, rfl⟩ ⟨Nat.zero_le _, Nat.zero_le _⟩ rfl (Nat.le_of_ble_eq_true rfl) ?_
          refine r_iconst (v := (5 : Int32)) C dX10_odds_46 rfl ?_
          refine r_icmp_ne C 54 dX10_odds_47 (by decide)  (fun h28 => ?_) (fun h28 => ?_)
          · have hF := if_f h28 hF
            refine r_aload_n C 0 0 dX10_odds_54 rfl rfl ?_
            refine r_getR (kf := 9) (d2 := (18, 0, 0)) C dX10_odds_55 rfl rfl f_X10 (by decide) t_2_104 rfl rfl ?_
            refine r_aload_n C 0 0 dX10_odds_58 rfl rfl ?_
            refine r_getR (kf := 5) (d2 := (7, 0, 0)) C dX10_odds_59 rfl rfl f_X10 (by decide) t_2_100 rfl rfl ?_
            refine r_iload_n C 1 1 dX10_odds_62 rfl rfl ?_
            refine r_iload_n C 2 2 dX10_odds_63 rfl rfl ?_
            refine r_iload_n C 3 3 dX10_odds_64 rfl rfl ?_
            obtain ⟨r17, σ16, e18, hF⟩ := bd_e hF
            refine r_callV_l (as := [vR (7, 0, 0), vI a1, vI a2, vI a3]) (st := []) C dX10_odds_65 (s_X4_beenIn G l e18) rfl rfl rfl t_4_165 t_4_166 t_4_167 t_1_10 t_4_168 m_X4_beenIn ⟨Nat.le_of_ble_eq_true rfl, Nat.le_of_ble_eq_true rfl⟩ ⟨rfl, rfl⟩ ⟨Nat.zero_le _, Nat.zero_le _⟩ rfl (Nat.le_of_ble_eq_true rfl) ?_
            refine r_lstore (ls2 := [(5, vL r17), (0, vR (0, 0, 0)), (1, vI a1), (2, vI a2), (3, vI a3), (4, vI a4)]) C dX10_odds_68 (by decide) rfl ?_
            refine r_lconst (v := (1 : Int64)) C dX10_odds_70 rfl ?_
            refine r_iconst (v := (2 : Int32)) C dX10_odds_71 rfl ?_
            refine r_iload_n C 4 3 dX10_odds_72 rfl rfl ?_
            refine r_imul C dX10_odds_73 ?_
            refine r_lshl C dX10_odds_74 ?_
            refine r_lstore (ls2 := [(7, vL ((1 : Int64) <<< (((2 : Int32) * a3).toInt64 &&& 63))), (5, vL r17), (0, vR (0, 0, 0)), (1, vI a1), (2, vI a2), (3, vI a3), (4, vI a4)]) C dX10_odds_75 (by decide) rfl ?_
            refine r_iconst (v := (0 : Int32)) C dX10_odds_77 rfl ?_
            refine r_istore (ls2 := [(9, vI (0 : Int32)), (7, vL ((1 : Int64) <<< (((2 : Int32) * a3).toInt64 &&& 63))), (5, vL r17), (0, vR (0, 0, 0)), (1, vI a1), (2, vI a2), (3, vI a3), (4, vI a4)]) C dX10_odds_78 (by decide) rfl ?_
            refine r_drop (ls2 := [(3, vI a3), (4, vI a4), (5, vL r17), (7, vL ((1 : Int64) <<< (((2 : Int32) * a3).toInt64 &&& 63))), (9, vI (0 : Int32))]) [6, 7, 2, 1, 0] rfl ?_
            refine l_X10_odds_80 C a3 a4 _ ?_ _ _ _ _ _ hF
            · intro y25 y26 σ24 hF
              refine r_iload C 0 dX10_odds_115 rfl ?_
              refine r_if_ne C 125 dX10_odds_117 (by decide)  (fun h27 => ?_) (fun h27 => ?_)
              · have hF := if_f h27 hF
                refine r_lload C 2 dX10_odds_125 rfl ?_
                exact r_lreturn C dX10_odds_127 (rt_e hF)
              · have hF := if_t h27 hF
                refine r_lload C 1 dX10_odds_120 rfl ?_
                refine r_goto C 127 dX10_odds_122 (by decide) ?_
                exact r_lreturn C dX10_odds_127 (rt_e hF)
          · have hF := if_t h28 hF
            refine r_ldc2_w (v := (-2 : Int64)) C dX10_odds_50 t_4_101 ?_
            exact r_lreturn C dX10_odds_53 (rt_e hF)
        · have hF := if_t h29 hF
          refine r_ldc2_w (v := (-1 : Int64)) C dX10_odds_34 t_4_100 ?_
          exact r_lreturn C dX10_odds_37 (rt_e hF)
