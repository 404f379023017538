def F_X2_begin (q1 : Nat) (a2 : Int32) (a3 : Int32) (a4 : Int32) (σ : St) : Option (Unit × St) :=
  bd (F_X6_beginAlone 3 q1 a2 a3 a4 σ) fun _ σ1 => nam (uI σ1 (13, 0, 0) 3 a2) fun σ3 => nam (uI σ3 (13, 0, 0) 4 a3) fun σ4 => nam (uI σ4 (13, 0, 0) 5 a4) fun σ5 => some ((), σ5)
set_option maxRecDepth 20000 in
set_option maxHeartbeats 4000000 in
theorem s_X2_begin (G : Gx) (l : Launch) {q1 : Nat} {a2 : Int32} {a3 : Int32} {a4 : Int32} {σ σ' : St}  (hF : F_X2_begin q1 a2 a3 a4 σ = some ((), σ')) : Sp G l yX2_begin cX2_begin 5 none (lvl 3) [vR (13, 0, 0), vR (7, q1, 0), vI a2, vI a3, vI a4] σ (va_Qv (fun b => b = σ') (Wd G) (AG G)) := by
  refine Sp_of (own := RX2) (by decide) rfl (Nat.le_of_ble_eq_true rfl) ?_
  intro p e s m args below meth c C
  show Rt G p l e (lvl 3) s m args below meth c 0 0 (MQ below (va_Qv (fun b => b = σ') (Wd G) (AG G)) args s 0 0 (AG G)) 5 0 [(0, vR (13, 0, 0)), (1, vR (7, q1, 0)), (2, vI a2), (3, vI a3), (4, vI a4)] [] σ
  unfold F_X2_begin at hF
  refine r_aload_n C 0 0 dX2_begin_0 rfl rfl ?_
  refine r_getR (kf := 0) (d2 := (7, 3, 0)) C dX2_begin_1 rfl rfl f_X2 (by decide) t_1_209 rfl rfl ?_
  refine r_aload_n C 1 1 dX2_begin_4 rfl rfl ?_
  refine r_iload_n C 2 2 dX2_begin_5 rfl rfl ?_
  refine r_iload_n C 3 3 dX2_begin_6 rfl rfl ?_
  refine r_iload C 4 dX2_begin_7 rfl ?_
  obtain ⟨⟨⟩, σ1, e2, hF⟩ := bd_e hF
  refine r_callV_v (as := [vR (7, q1, 0), vI a2, vI a3, vI a4]) (st := []) C dX2_begin_9 (s_X6_beginAlone G l e2) rfl rfl rfl t_4_59 t_4_60 t_4_61 t_1_5 t_4_62 m_X6_beginAlone ⟨Nat.le_of_ble_eq_true rfl, Nat.le_of_ble_eq_true rfl⟩ ⟨rfl, rfl⟩ ⟨Nat.zero_le _, Nat.zero_le _⟩ rfl (Nat.le_of_ble_eq_true rfl) ?_
  refine r_aload_n C 0 0 dX2_begin_12 rfl rfl ?_
  refine r_iload_n C 2 2 dX2_begin_13 rfl rfl ?_
  obtain ⟨σ3, eσ3, hF⟩ := nam_e hF
  refine r_put (kf := 3) (ty0 := tyX2) C dX2_begin_14 rfl rfl f_X2 tyX2_ok nmX2 (by decide) t_1_212 rfl rfl rfl rfl eσ3 ?_
  refine r_aload_n C 0 0 dX2_begin_17 rfl rfl ?_
  refine r_iload_n C 3 3 dX2_begin_18 rfl rfl ?_
  obtain ⟨σ4, eσ4, hF⟩ := nam_e hF
  refine r_put (kf := 4) (ty0 := tyX2) C dX2_begin_19 rfl rfl f_X2 tyX2_ok nmX2 (by decide) t_1_213 rfl rfl rfl rfl eσ4 ?_
  refine r_aload_n C 0 0 dX2_begin_22 rfl rfl ?_
  refine r_iload C 4 dX2_begin_23 rfl ?_
  obtain ⟨σ5, eσ5, hF⟩ := nam_e hF
  refine r_put (kf := 5) (ty0 := tyX2) C dX2_begin_25 rfl rfl f_X2 tyX2_ok nmX2 (by decide) t_1_214 rfl rfl rfl rfl eσ5 ?_
  exact r_return C dX2_begin_28 (rv_e hF)
def L_X2_runOn_2 (q1 : Nat) (c2 : Int32) : Nat → Int32 → St → Option (Unit × St)
  | 0, _, _ => none
  | n + 1, v3, τ =>
  (if c2 ≤ v3 then ck (inb (0 : Int32) 12) (some ((), τ)) else bd (F_X6_passTick 3 q1 (0 : Int32) τ) fun _ σ2 => nam (v3 + (1 : Int32)) fun x4 => L_X2_runOn_2 q1 c2 n x4 σ2)
def F_X2_runOn (q1 : Nat) (a2 : Int32) (σ : St) : Option (Unit × St) :=
  L_X2_runOn_2 q1 a2 FU (0 : Int32) σ 
set_option maxRecDepth 20000 in
set_option maxHeartbeats 4000000 in
theorem l_X2_runOn_2 {G : Gx} {p : Program} {l : Launch} {e : Env} {s : State} {m : MethodId} {args : Array Value} {below : List Frame} {meth : Method} {c : Code} (C : Cx G p s m args meth c (some (.object "DropsDance$Drop")) 4 RX2 cX2_runOn) (q1 : Nat) (c2 : Int32) {σ' : St}  : ∀ (n : Nat) (v3 : Int32) (τ : St), L_X2_runOn_2 q1 c2 n v3 τ = some ((), σ') → Rt G p l e (lvl 4) s m args below meth c 0 0 (MQ below (va_Qr (fun b => b = (σ', (10, 3, 0))) (WdR G) (AG G)) args s 0 0 (AG G)) 4 2 [(0, vR (13, 0, 0)), (1, vR (3, q1, 0)), (2, vI c2), (3, vI v3)] [] τ := by
  intro n
  induction n with
  | zero => intro v3 τ hF; cases hF
  | succ n ih =>
    intro v3 τ hF
    unfold L_X2_runOn_2 at hF
    refine r_iload_n C 3 3 dX2_runOn_2 rfl rfl ?_
    refine r_iload_n C 2 2 dX2_runOn_3 rfl rfl ?_
    refine r_icmp_ge C 22 dX2_runOn_4 (by decide)  (fun h5 => ?_) (fun h5 => ?_)
    · have hF := if_t h5 hF
      refine r_aload_n C 0 0 dX2_runOn_22 rfl rfl ?_
      refine r_getR (kf := 0) (d2 := (7, 3, 0)) C dX2_runOn_23 rfl rfl f_X2 (by decide) t_1_209 rfl rfl ?_
      refine r_getR (kf := 1) (d2 := (9, 3, 0)) C dX2_runOn_26 rfl rfl f_X6 (by decide) t_1_156 rfl rfl ?_
      refine r_iconst (v := (0 : Int32)) C dX2_runOn_29 rfl ?_
      obtain ⟨h1, hF⟩ := ck_e hF
      refine r_aaload (cA := 0) (d2 := (10, 3, 0)) C dX2_runOn_30 rfl rfl h1 rfl ?_
      exact r_areturn C dX2_runOn_31 ⟨_, rfl⟩ (ra_e hF)
    · have hF := if_f h5 hF
      refine r_aload_n C 0 0 dX2_runOn_7 rfl rfl ?_
      refine r_getR (kf := 0) (d2 := (7, 3, 0)) C dX2_runOn_8 rfl rfl f_X2 (by decide) t_1_209 rfl rfl ?_
      refine r_aload_n C 1 1 dX2_runOn_11 rfl rfl ?_
      refine r_iconst (v := (0 : Int32)) C dX2_runOn_12 rfl ?_
      obtain ⟨⟨⟩, σ2, e3, hF⟩ := bd_e hF
      refine r_callV_v (as := [vR (3, q1, 0), vI (0 : Int32)]) (st := []) C dX2_runOn_13 (s_X6_passTick G l e3) rfl rfl rfl t_4_68 t_3_181 t_3_182 t_1_5 t_3_183 m_X6_passTick ⟨Nat.le_of_ble_eq_true rfl, Nat.le_of_ble_eq_true rfl⟩ ⟨rfl, rfl⟩ ⟨Nat.zero_le _, Nat.zero_le _⟩ rfl (Nat.le_of_ble_eq_true rfl) ?_
      obtain ⟨x4, ex4, hF⟩ := nam_e hF
      refine r_iinc (v := x4) (ls2 := [(3, vI x4), (0, vR (13, 0, 0)), (1, vR (3, q1, 0)), (2, vI c2)]) C 3 dX2_runOn_16 rfl ex4.symm (by decide) rfl ?_
      refine r_goto C 2 dX2_runOn_19 (by decide) ?_
      refine r_drop (ls2 := [(0, vR (13, 0, 0)), (1, vR (3, q1, 0)), (2, vI c2), (3, vI x4)]) [1, 2, 3, 0] rfl ?_
      exact ih _ _ hF
set_option maxRecDepth 20000 in
set_option maxHeartbeats 4000000 in
theorem s_X2_runOn (G : Gx) (l : Launch) {q1 : Nat} {a2 : Int32} {σ σ' : St}  (hF : F_X2_runOn q1 a2 σ = some ((), σ')) : Sp G l yX2_runOn cX2_runOn 4 (some (.object "DropsDance$Drop")) (lvl 4) [vR (13, 0, 0), vR (3, q1, 0), vI a2] σ (va_Qr (fun b => b = (σ', (10, 3, 0))) (WdR G) (AG G)) := by
  refine Sp_of (own := RX2) (by decide) rfl (Nat.le_of_ble_eq_true rfl) ?_
  intro p e s m args below meth c C
  show Rt G p l e (lvl 4) s m args below meth c 0 0 (MQ below (va_Qr (fun b => b = (σ', (10, 3, 0))) (WdR G) (AG G)) args s 0 0 (AG G)) 4 0 [(0, vR (13, 0, 0)), (1, vR (3, q1, 0)), (2, vI a2)] [] σ
  unfold F_X2_runOn at hF
  refine r_iconst (v := (0 : Int32)) C dX2_runOn_0 rfl ?_
  refine r_istore_n (ls2 := [(3, vI (0 : Int32)), (0, vR (13, 0, 0)), (1, vR (3, q1, 0)), (2, vI a2)]) C dX2_runOn_1 3 rfl (by decide) rfl ?_
  refine r_drop (ls2 := [(0, vR (13, 0, 0)), (1, vR (3, q1, 0)), (2, vI a2), (3, vI (0 : Int32))]) [1, 2, 3, 0] rfl ?_
  refine l_X2_runOn_2 C q1 a2  _ _ _ hF
def F_X10_alone (a1 : Int32) (a2 : Int32) (a3 : Int32) (a4 : Int32) (a5 : Int32) (σ : St) : Option (Int32 × St) :=
  bd (F_X10_isDropToBe a1 a2 a3 σ) fun r2 σ1 => (if r2 = 0 then some ((-1 : Int32), σ1) else bd (F_X10_within a4 (0 : Int32) (400 : Int32) σ1) fun r5 σ4 => (if r5 = 0 then some ((-1 : Int32), σ4) else bd (F_X10_within a5 (0 : Int32) (3 : Int32) σ4) fun r8 σ7 => (if r8 = 0 then some ((-1 : Int32), σ7) else bd (F_X6_isOpen 0 a1 σ7) fun r11 σ10 => (if r11 = 0 then some ((-2 : Int32), σ10) else bd (F_X2_begin 0 a1 a2 a3 σ10) fun _ σ13 => bd (F_X2_runOn 0 a4 σ13) fun _ σ15 => (if a5 = (0 : Int32) then some (σ15.1 (10, 3, 0) 0, σ15) else (if a5 = (1 : Int32) then some (σ15.1 (10, 3, 0) 1, σ15) else (if a5 = (2 : Int32) then some (σ15.1 (10, 3, 0) 3, σ15) else some (σ15.1 (10, 3, 0) 4, σ15))))))))
set_option maxRecDepth 20000 in
set_option maxHeartbeats 4000000 in
theorem s_X10_alone (G : Gx) (l : Launch) {a1 : Int32} {a2 : Int32} {a3 : Int32} {a4 : Int32} {a5 : Int32} {σ σ' : St} {r : Int32} (hF : F_X10_alone a1 a2 a3 a4 a5 σ = some (r, σ')) : Sp G l yX10_alone cX10_alone 7 (some .int) (lvl 5) [vR (0, 0, 0), vI a1, vI a2, vI a3, vI a4, vI a5] σ (va_Qi (fun a b => a = r ∧ b = σ') (Wd G) (AG G)) := by
  refine Sp_of (own := RX10) (by decide) rfl (Nat.le_of_ble_eq_true rfl) ?_
  intro p e s m args below meth c C
  show Rt G p l e (lvl 5) s m args below meth c 0 0 (MQ below (va_Qi (fun a b => a = r ∧ b = σ') (Wd G) (AG G)) args s 0 0 (AG G)) 7 0 [(0, vR (0, 0, 0)), (1, vI a1), (2, vI a2), (3, vI a3), (4, vI a4), (5, vI a5)] [] σ
  unfold F_X10_alone at hF
  refine r_iload_n C 1 1 dX10_alone_0 rfl rfl ?_
  refine r_iload_n C 2 2 dX10_alone_1 rfl rfl ?_
  refine r_iload_n C 3 3 dX10_alone_2 rfl rfl ?_
  obtain ⟨r2, σ1, e3, hF⟩ := bd_e hF
  refine r_callS_i (as := [vI a1, vI a2, vI a3]) (st := []) C dX10_alone_3 (s_X10_isDropToBe G l e3) t_3_154 t_3_155 t_1_1 t_3_156 m_X10_isDropToBe ⟨Nat.le_of_ble_eq_true rfl, Nat.le_of_ble_eq_true rfl⟩ ⟨rfl, rfl⟩ ⟨Nat.zero_le _, Nat.zero_le _⟩ rfl (Nat.le_of_ble_eq_true rfl) ?_
  refine r_if_eq C 31 dX10_alone_6 (by decide)  (fun h23 => ?_) (fun h23 => ?_)
  · have hF := if_t h23 hF
    refine r_iconst (v := (-1 : Int32)) C dX10_alone_31 rfl ?_
    exact r_ireturn C dX10_alone_32 (rt_e hF)
  · have hF := if_f h23 hF
    refine r_iload C 4 dX10_alone_9 rfl ?_
    refine r_iconst (v := (0 : Int32)) C dX10_alone_11 rfl ?_
    refine r_sipush (v := (400 : Int32)) C dX10_alone_12 rfl ?_
    obtain ⟨r5, σ4, e6, hF⟩ := bd_e hF
    refine r_callS_i (as := [vI a4, vI (0 : Int32), vI (400 : Int32)]) (st := []) C dX10_alone_15 (s_X10_within G l e6) t_2_143 t_2_144 t_1_1 t_2_145 m_X10_within ⟨Nat.le_of_ble_eq_true rfl, Nat.le_of_ble_eq_true rfl⟩ ⟨rfl, rfl⟩ ⟨Nat.zero_le _, Nat.zero_le _⟩ rfl (Nat.le_of_ble_eq_true rfl) ?_
    refine r_if_eq C 31 dX10_alone_18 (by decide)  (fun h22 => ?_) (fun h22 => ?_)
    · have hF := if_t h22 hF
      refine r_iconst (v := (-1 : Int32)) C dX10_alone_31 rfl ?_
      exact r_ireturn C dX10_alone_32 (rt_e hF)
    · have hF := if_f h22 hF
      refine r_iload C 5 dX10_alone_21 rfl ?_
      refine r_iconst (v := (0 : Int32)) C dX10_alone_23 rfl ?_
      refine r_iconst (v := (3 : Int32)) C dX10_alone_24 rfl ?_
      obtain ⟨r8, σ7, e9, hF⟩ := bd_e hF
      refine r_callS_i (as := [vI a5, vI (0 : Int32), vI (3 : Int32)]) (st := []) C dX10_alone_25 (s_X10_within G l e9) t_2_143 t_2_144 t_1_1 t_2_145 m_X10_within ⟨Nat.le_of_ble_eq_true rfl, Nat.le_of_ble_eq_true rfl⟩ ⟨rfl, rfl⟩ ⟨Nat.zero_le _, Nat.zero_le _⟩ rfl (Nat.le_of_ble_eq_true rfl) ?_
      refine r_if_ne C 33 dX10_alone_28 (by decide)  (fun h21 => ?_) (fun h21 => ?_)
      · have hF := if_f h21 hF
        refine r_aload_n C 0 0 dX10_alone_33 rfl rfl ?_
        refine r_getR (kf := 5) (d2 := (7, 0, 0)) C dX10_alone_34 rfl rfl f_X10 (by decide) t_2_100 rfl rfl ?_
        refine r_iload_n C 1 1 dX10_alone_37 rfl rfl ?_
        obtain ⟨r11, σ10, e12, hF⟩ := bd_e hF
        refine r_callV_i (as := [vI a1]) (st := []) C dX10_alone_38 (s_X6_isOpen G l e12) rfl rfl rfl t_3_163 t_3_164 t_3_165 t_1_5 t_3_166 m_X6_isOpen ⟨Nat.le_of_ble_eq_true rfl, Nat.le_of_ble_eq_true rfl⟩ ⟨rfl, rfl⟩ ⟨Nat.zero_le _, Nat.zero_le _⟩ rfl (Nat.le_of_ble_eq_true rfl) ?_
        refine r_if_ne C 47 dX10_alone_41 (by decide)  (fun h20 => ?_) (fun h20 => ?_)
        · have hF := if_f h20 hF
          refine r_aload_n C 0 0 dX10_alone_47 rfl rfl ?_
          refine r_getR (kf := 7) (d2 := (13, 0, 0)) C dX10_alone_48 rfl rfl f_X10 (by decide) t_2_102 rfl rfl ?_
          refine r_aload_n C 0 0 dX10_alone_51 rfl rfl ?_
          refine r_getR (kf := 5) (d2 := (7, 0, 0)) C dX10_alone_52 rfl rfl f_X10 (by decide) t_2_100 rfl rfl ?_
          refine r_iload_n C 1 1 dX10_alone_55 rfl rfl ?_
          refine r_iload_n C 2 2 dX10_alone_56 rfl rfl ?_
          refine r_iload_n C 3 3 dX10_alone_57 rfl rfl ?_
          obtain ⟨⟨⟩, σ13, e14, hF⟩ := bd_e hF
          refine r_callV_v (as := [vR (7, 0, 0), vI a1, vI a2, vI a3]) (st := []) C dX10_alone_58 (s_X2_begin G l e14) rfl rfl rfl t_4_55 t_4_56 t_4_57 t_1_8 t_4_58 m_X2_begin ⟨Nat.le_of_ble_eq_true rfl, Nat.le_of_ble_eq_true rfl⟩ ⟨rfl, rfl⟩ ⟨Nat.zero_le _, Nat.zero_le _⟩ rfl (Nat.le_of_ble_eq_true rfl) ?_
          refine r_aload_n C 0 0 dX10_alone_61 rfl rfl ?_
          refine r_getR (kf := 7) (d2 := (13, 0, 0)) C dX10_alone_62 rfl rfl f_X10 (by decide) t_2_102 rfl rfl ?_
          refine r_aload_n C 0 0 dX10_alone_65 rfl rfl ?_
          refine r_getR (kf := 4) (d2 := (3, 0, 0)) C dX10_alone_66 rfl rfl f_X10 (by decide) t_2_99 rfl rfl ?_
          refine r_iload C 4 dX10_alone_69 rfl ?_
          obtain ⟨⟨⟩, σ15, e16, hF⟩ := bd_e hF
          refine r_callV_r (as := [vR (3, 0, 0), vI a4]) (st := []) C dX10_alone_71 (s_X2_runOn G l e16) rfl rfl rfl t_4_64 t_4_65 t_4_66 t_1_8 t_4_67 m_X2_runOn ⟨Nat.le_of_ble_eq_true rfl, Nat.le_of_ble_eq_true rfl⟩ ⟨rfl, rfl⟩ ⟨Nat.zero_le _, Nat.zero_le _⟩ rfl (Nat.le_of_ble_eq_true rfl) ?_
          refine r_astore (ls2 := [(6, vR (10, 3, 0)), (0, vR (0, 0, 0)), (1, vI a1), (2, vI a2), (3, vI a3), (4, vI a4), (5, vI a5)]) C dX10_alone_74 (by decide) rfl ?_
          refine r_iload C 6 dX10_alone_76 rfl ?_
          by_cases h17 : a5 = (0 : Int32)
          · have hF := if_t h17 hF
            refine r_tabIn (off := 26) C 104 dX10_alone_78 (by rw [h17]; decide) (by rw [h17]; decide) (by rw [h17]; rfl) (by decide) ?_
            refine r_aload C 0 dX10_alone_104 rfl ?_
            refine r_getI (kf := 0) C dX10_alone_106 rfl rfl f_X0 (by decide) t_1_121 rfl ?_
            exact r_ireturn C dX10_alone_109 (rt_e hF)
          have hF := if_f h17 hF
          by_cases h18 : a5 = (1 : Int32)
          · have hF := if_t h18 hF
            refine r_tabIn (off := 32) C 110 dX10_alone_78 (by rw [h18]; decide) (by rw [h18]; decide) (by rw [h18]; rfl) (by decide) ?_
            refine r_aload C 0 dX10_alone_110 rfl ?_
            refine r_getI (kf := 1) C dX10_alone_112 rfl rfl f_X0 (by decide) t_1_124 rfl ?_
            exact r_ireturn C dX10_alone_115 (rt_e hF)
          have hF := if_f h18 hF
          by_cases h19 : a5 = (2 : Int32)
          · have hF := if_t h19 hF
            refine r_tabIn (off := 38) C 116 dX10_alone_78 (by rw [h19]; decide) (by rw [h19]; decide) (by rw [h19]; rfl) (by decide) ?_
            refine r_aload C 0 dX10_alone_116 rfl ?_
            refine r_getI (kf := 3) C dX10_alone_118 rfl rfl f_X0 (by decide) t_1_132 rfl ?_
            exact r_ireturn C dX10_alone_121 (rt_e hF)
          have hF := if_f h19 hF
          refine r_tabOut C 122 dX10_alone_78 (by have u0 := lv_neT h17 (a := 0) rfl; have u1 := lv_neT h18 (a := 1) rfl; have u2 := lv_neT h19 (a := 2) rfl; omega) (by decide) ?_
          refine r_aload C 0 dX10_alone_122 rfl ?_
          refine r_getI (kf := 4) C dX10_alone_124 rfl rfl f_X0 (by decide) t_1_134 rfl ?_
          exact r_ireturn C dX10_alone_127 (rt_e hF)
        · have hF := if_t h20 hF
          refine r_bipush (v := (-2 : Int32)) C dX10_alone_44 rfl ?_
          exact r_ireturn C dX10_alone_46 (rt_e hF)
      · have hF := if_t h21 hF
        refine r_iconst (v := (-1 : Int32)) C dX10_alone_31 rfl ?_
        exact r_ireturn C dX10_alone_32 (rt_e hF)
def L_X2_ticksTill_14 (q1 : Nat) (c2 : Int32) (c3 : Int32) : Nat → Int32 → St → Option (Int32 × St)
  | 0, _, _ => none
  | n + 1, v5, τ =>
  (if c3 < v5 then some ((-4 : Int32), τ) else bd (F_X10_isCell (τ.1 (10, 3, 0) 0) τ) fun r3 σ2 => nam (fun  (σ6 : St) => (if (σ6.1 (10, 3, 0) 0) = c2 then some (v5, σ6) else (if (σ6.1 (10, 3, 0) 3) = 0 then bd (F_X6_passTick 3 q1 (0 : Int32) σ6) fun _ σ7 => nam (v5 + (1 : Int32)) fun x9 => L_X2_ticksTill_14 q1 c2 c3 n x9 σ7 else some ((-4 : Int32), σ6)))) fun k5 => (if r3 = 0 then k5  σ2 else ck (inb (σ2.1 (10, 3, 0) 0) 96) (nam (uI σ2 (14, 0, 0) ((σ2.1 (10, 3, 0) 0).toNatClampNeg) (1 : Int32)) fun σ13 => k5  σ13)))
def F_X2_ticksTill (q1 : Nat) (a2 : Int32) (a3 : Int32) (σ : St) : Option (Int32 × St) :=
  ck (inb (0 : Int32) 12) (L_X2_ticksTill_14 q1 a2 a3 FU (0 : Int32) σ )
set_option maxRecDepth 20000 in
set_option maxHeartbeats 4000000 in
theorem l_X2_ticksTill_14 {G : Gx} {p : Program} {l : Launch} {e : Env} {s : State} {m : MethodId} {args : Array Value} {below : List Frame} {meth : Method} {c : Code} (C : Cx G p s m args meth c (some .int) 6 RX2 cX2_ticksTill) (q1 : Nat) (c2 : Int32) (c3 : Int32) {σ' : St} {r : Int32} : ∀ (n : Nat) (v5 : Int32) (τ : St), L_X2_ticksTill_14 q1 c2 c3 n v5 τ = some (r, σ') → Rt G p l e (lvl 4) s m args below meth c 0 0 (MQ below (va_Qi (fun a b => a = r ∧ b = σ') (Wd G) (AG G)) args s 0 0 (AG G)) 6 14 [(0, vR (13, 0, 0)), (1, vR (3, q1, 0)), (2, vI c2), (3, vI c3), (4, vR (10, 3, 0)), (5, vI v5)] [] τ := by
  intro n
  induction n with
  | zero => intro v5 τ hF; cases hF
  | succ n ih =>
    intro v5 τ hF
    unfold L_X2_ticksTill_14 at hF
    refine r_iload C 5 dX2_ticksTill_14 rfl ?_
    refine r_iload_n C 3 3 dX2_ticksTill_16 rfl rfl ?_
    refine r_icmp_gt C 80 dX2_ticksTill_17 (by decide)  (fun h15 => ?_) (fun h15 => ?_)
    · have hF := if_t h15 hF
      refine r_bipush (v := (-4 : Int32)) C dX2_ticksTill_80 rfl ?_
      exact r_ireturn C dX2_ticksTill_82 (rt_e hF)
    · have hF := if_f h15 hF
      refine r_aload C 4 dX2_ticksTill_20 rfl ?_
      refine r_getI (kf := 0) C dX2_ticksTill_22 rfl rfl f_X0 (by decide) t_1_119 rfl ?_
      obtain ⟨r3, σ2, e4, hF⟩ := bd_e hF
      refine r_callN_i (as := [vI (τ.1 (10, 3, 0) 0)]) (st := []) C dX2_ticksTill_25 (s_X10_isCell G l e4) (by decide) t_3_121 t_1_1 t_3_122 m_X10_isCell ⟨Nat.le_of_ble_eq_true rfl, Nat.le_of_ble_eq_true rfl⟩ ⟨rfl, rfl⟩ ⟨Nat.zero_le _, Nat.zero_le _⟩ rfl (Nat.le_of_ble_eq_true rfl) ?_
      obtain ⟨k5, ek5, hF⟩ := nam_e hF
      have hk5 : ∀  (σ6 : St), k5  σ6 = some (r, σ') → Rt G p l e (lvl 4) s m args below meth c 0 0 (MQ below (va_Qi (fun a b => a = r ∧ b = σ') (Wd G) (AG G)) args s 0 0 (AG G)) 6 42 [(0, vR (13, 0, 0)), (1, vR (3, q1, 0)), (2, vI c2), (3, vI c3), (4, vR (10, 3, 0)), (5, vI v5)] [] σ6 := by
        intro  σ6 hF
        subst ek5
        refine r_aload C 4 dX2_ticksTill_42 rfl ?_
        refine r_getI (kf := 0) C dX2_ticksTill_44 rfl rfl f_X0 (by decide) t_1_119 rfl ?_
        refine r_iload_n C 2 2 dX2_ticksTill_47 rfl rfl ?_
        refine r_icmp_ne C 54 dX2_ticksTill_48 (by decide)  (fun h11 => ?_) (fun h11 => ?_)
        · have hF := if_f h11 hF
          refine r_aload C 4 dX2_ticksTill_54 rfl ?_
          refine r_getI (kf := 3) C dX2_ticksTill_56 rfl rfl f_X0 (by decide) t_1_130 rfl ?_
          refine r_if_eq C 65 dX2_ticksTill_59 (by decide)  (fun h10 => ?_) (fun h10 => ?_)
          · have hF := if_t h10 hF
            refine r_aload_n C 0 0 dX2_ticksTill_65 rfl rfl ?_
            refine r_getR (kf := 0) (d2 := (7, 3, 0)) C dX2_ticksTill_66 rfl rfl f_X2 (by decide) t_1_209 rfl rfl ?_
            refine r_aload_n C 1 1 dX2_ticksTill_69 rfl rfl ?_
            refine r_iconst (v := (0 : Int32)) C dX2_ticksTill_70 rfl ?_
            obtain ⟨⟨⟩, σ7, e8, hF⟩ := bd_e hF
            refine r_callV_v (as := [vR (3, q1, 0), vI (0 : Int32)]) (st := []) C dX2_ticksTill_71 (s_X6_passTick G l e8) rfl rfl rfl t_4_68 t_3_181 t_3_182 t_1_5 t_3_183 m_X6_passTick ⟨Nat.le_of_ble_eq_true rfl, Nat.le_of_ble_eq_true rfl⟩ ⟨rfl, rfl⟩ ⟨Nat.zero_le _, Nat.zero_le _⟩ rfl (Nat.le_of_ble_eq_true rfl) ?_
            obtain ⟨x9, ex9, hF⟩ := nam_e hF
            refine r_iinc (v := x9) (ls2 := [(5, vI x9), (0, vR (13, 0, 0)), (1, vR (3, q1, 0)), (2, vI c2), (3, vI c3), (4, vR (10, 3, 0))]) C 5 dX2_ticksTill_74 rfl ex9.symm (by decide) rfl ?_
            refine r_goto C 14 dX2_ticksTill_77 (by decide) ?_
            refine r_drop (ls2 := [(0, vR (13, 0, 0)), (1, vR (3, q1, 0)), (2, vI c2), (3, vI c3), (4, vR (10, 3, 0)), (5, vI x9)]) [1, 2, 3, 4, 5, 0] rfl ?_
            exact ih _ _ hF
          · have hF := if_f h10 hF
            refine r_bipush (v := (-4 : Int32)) C dX2_ticksTill_62 rfl ?_
            exact r_ireturn C dX2_ticksTill_64 (rt_e hF)
        · have hF := if_t h11 hF
          refine r_iload C 5 dX2_ticksTill_51 rfl ?_
          exact r_ireturn C dX2_ticksTill_53 (rt_e hF)
      refine r_if_eq C 42 dX2_ticksTill_28 (by decide)  (fun h14 => ?_) (fun h14 => ?_)
      · have hF := if_t h14 hF
        exact hk5 _ hF
      · have hF := if_f h14 hF
        refine r_aload_n C 0 0 dX2_ticksTill_31 rfl rfl ?_
        refine r_getR (kf := 1) (d2 := (14, 0, 0)) C dX2_ticksTill_32 rfl rfl f_X2 (by decide) t_1_210 rfl rfl ?_
        refine r_aload C 4 dX2_ticksTill_35 rfl ?_
        refine r_getI (kf := 0) C dX2_ticksTill_37 rfl rfl f_X0 (by decide) t_1_119 rfl ?_
        refine r_iconst (v := (1 : Int32)) C dX2_ticksTill_40 rfl ?_
        obtain ⟨h12, hF⟩ := ck_e hF
        obtain ⟨σ13, eσ13, hF⟩ := nam_e hF
        refine r_iastore C ((σ2.1 (10, 3, 0) 0).toNatClampNeg) dX2_ticksTill_41 rfl h12 rfl eσ13 ?_
        exact hk5 _ hF
set_option maxRecDepth 20000 in
set_option maxHeartbeats 4000000 in
theorem s_X2_ticksTill (G : Gx) (l : Launch) {q1 : Nat} {a2 : Int32} {a3 : Int32} {σ σ' : St} {r : Int32} (hF : F_X2_ticksTill q1 a2 a3 σ = some (r, σ')) : Sp G l yX2_ticksTill cX2_ticksTill 6 (some .int) (lvl 4) [vR (13, 0, 0), vR (3, q1, 0), vI a2, vI a3] σ (va_Qi (fun a b => a = r ∧ b = σ') (Wd G) (AG G)) := by
  refine Sp_of (own := RX2) (by decide) rfl (Nat.le_of_ble_eq_true rfl) ?_
  intro p e s m args below meth c C
  show Rt G p l e (lvl 4) s m args below meth c 0 0 (MQ below (va_Qi (fun a b => a = r ∧ b = σ') (Wd G) (AG G)) args s 0 0 (AG G)) 6 0 [(0, vR (13, 0, 0)), (1, vR (3, q1, 0)), (2, vI a2), (3, vI a3)] [] σ
  unfold F_X2_ticksTill at hF
  refine r_aload_n C 0 0 dX2_ticksTill_0 rfl rfl ?_
  refine r_getR (kf := 0) (d2 := (7, 3, 0)) C dX2_ticksTill_1 rfl rfl f_X2 (by decide) t_1_209 rfl rfl ?_
  refine r_getR (kf := 1) (d2 := (9, 3, 0)) C dX2_ticksTill_4 rfl rfl f_X6 (by decide) t_1_156 rfl rfl ?_
  refine r_iconst (v := (0 : Int32)) C dX2_ticksTill_7 rfl ?_
  obtain ⟨h1, hF⟩ := ck_e hF
  refine r_aaload (cA := 0) (d2 := (10, 3, 0)) C dX2_ticksTill_8 rfl rfl h1 rfl ?_
  refine r_astore (ls2 := [(4, vR (10, 3, 0)), (0, vR (13, 0, 0)), (1, vR (3, q1, 0)), (2, vI a2), (3, vI a3)]) C dX2_ticksTill_9 (by decide) rfl ?_
  refine r_iconst (v := (0 : Int32)) C dX2_ticksTill_11 rfl ?_
  refine r_istore (ls2 := [(5, vI (0 : Int32)), (4, vR (10, 3, 0)), (0, vR (13, 0, 0)), (1, vR (3, q1, 0)), (2, vI a2), (3, vI a3)]) C dX2_ticksTill_12 (by decide) rfl ?_
  refine r_drop (ls2 := [(0, vR (13, 0, 0)), (1, vR (3, q1, 0)), (2, vI a2), (3, vI a3), (4, vR (10, 3, 0)), (5, vI (0 : Int32))]) [2, 3, 4, 5, 1, 0] rfl ?_
  refine l_X2_ticksTill_14 C q1 a2 a3  _ _ _ hF
def F_X10_reach (a1 : Int32) (a2 : Int32) (a3 : Int32) (a4 : Int32) (σ : St) : Option (Int32 × St) :=
  bd (F_X10_isDropToBe a1 a2 a3 σ) fun r2 σ1 => (if r2 = 0 then some ((-1 : Int32), σ1) else bd (F_X10_isCell a4 σ1) fun r5 σ4 => (if r5 = 0 then some ((-1 : Int32), σ4) else bd (F_X6_isOpen 0 a1 σ4) fun r8 σ7 => (if r8 = 0 then some ((-2 : Int32), σ7) else bd (F_X2_begin 0 a1 a2 a3 σ7) fun _ σ10 => bd (F_X2_ticksTill 0 a4 (400 : Int32) σ10) fun r13 σ12 => some (r13, σ12))))
set_option maxRecDepth 20000 in
set_option maxHeartbeats 4000000 in
theorem s_X10_reach (G : Gx) (l : Launch) {a1 : Int32} {a2 : Int32} {a3 : Int32} {a4 : Int32} {σ σ' : St} {r : Int32} (hF : F_X10_reach a1 a2 a3 a4 σ = some (r, σ')) : Sp G l yX10_reach cX10_reach 5 (some .int) (lvl 5) [vR (0, 0, 0), vI a1, vI a2, vI a3, vI a4] σ (va_Qi (fun a b => a = r ∧ b = σ') (Wd G) (AG G)) := by
  refine Sp_of (own := RX10) (by decide) rfl (Nat.le_of_ble_eq_true rfl) ?_
  intro p e s m args below meth c C
  show Rt G p l e (lvl 5) s m args below meth c 0 0 (MQ below (va_Qi (fun a b => a = r ∧ b = σ') (Wd G) (AG G)) args s 0 0 (AG G)) 5 0 [(0, vR (0, 0, 0)), (1, vI a1), (2, vI a2), (3, vI a3), (4, vI a4)] [] σ
  unfold F_X10_reach at hF
  refine r_iload_n C 1 1 dX10_reach_0 rfl rfl ?_
  refine r_iload_n C 2 2 dX10_reach_1 rfl rfl ?_
  refine r_iload_n C 3 3 dX10_reach_2 rfl rfl ?_
  obtain ⟨r2, σ1, e3, hF⟩ := bd_e hF
  refine r_callS_i (as := [vI a1, vI a2, vI a3]) (st := []) C dX10_reach_3 (s_X10_isDropToBe G l e3) t_3_154 t_3_155 t_1_1 t_3_156 m_X10_isDropToBe ⟨Nat.le_of_ble_eq_true rfl, Nat.le_of_ble_eq_true rfl⟩ ⟨rfl, rfl⟩ ⟨Nat.zero_le _, Nat.zero_le _⟩ rfl (Nat.le_of_ble_eq_true rfl) ?_
  refine r_if_eq C 17 dX10_reach_6 (by decide)  (fun h17 => ?_) (fun h17 => ?_)
  · have hF := if_t h17 hF
    refine r_iconst (v := (-1 : Int32)) C dX10_reach_17 rfl ?_
    exact r_ireturn C dX10_reach_18 (rt_e hF)
  · have hF := if_f h17 hF
    refine r_iload C 4 dX10_reach_9 rfl ?_
    obtain ⟨r5, σ4, e6, hF⟩ := bd_e hF
    refine r_callS_i (as := [vI a4]) (st := []) C dX10_reach_11 (s_X10_isCell G l e6) t_3_120 t_3_121 t_1_1 t_3_122 m_X10_isCell ⟨Nat.le_of_ble_eq_true rfl, Nat.le_of_ble_eq_true rfl⟩ ⟨rfl, rfl⟩ ⟨Nat.zero_le _, Nat.zero_le _⟩ rfl (Nat.le_of_ble_eq_true rfl) ?_
    refine r_if_ne C 19 dX10_reach_14 (by decide)  (fun h16 => ?_) (fun h16 => ?_)
    · have hF := if_f h16 hF
      refine r_aload_n C 0 0 dX10_reach_19 rfl rfl ?_
      refine r_getR (kf := 5) (d2 := (7, 0, 0)) C dX10_reach_20 rfl rfl f_X10 (by decide) t_2_100 rfl rfl ?_
      refine r_iload_n C 1 1 dX10_reach_23 rfl rfl ?_
      obtain ⟨r8, σ7, e9, hF⟩ := bd_e hF
      refine r_callV_i (as := [vI a1]) (st := []) C dX10_reach_24 (s_X6_isOpen G l e9) rfl rfl rfl t_3_163 t_3_164 t_3_165 t_1_5 t_3_166 m_X6_isOpen ⟨Nat.le_of_ble_eq_true rfl, Nat.le_of_ble_eq_true rfl⟩ ⟨rfl, rfl⟩ ⟨Nat.zero_le _, Nat.zero_le _⟩ rfl (Nat.le_of_ble_eq_true rfl) ?_
      refine r_if_ne C 33 dX10_reach_27 (by decide)  (fun h15 => ?_) (fun h15 => ?_)
      · have hF := if_f h15 hF
        refine r_aload_n C 0 0 dX10_reach_33 rfl rfl ?_
        refine r_getR (kf := 7) (d2 := (13, 0, 0)) C dX10_reach_34 rfl rfl f_X10 (by decide) t_2_102 rfl rfl ?_
        refine r_aload_n C 0 0 dX10_reach_37 rfl rfl ?_
        refine r_getR (kf := 5) (d2 := (7, 0, 0)) C dX10_reach_38 rfl rfl f_X10 (by decide) t_2_100 rfl rfl ?_
        refine r_iload_n C 1 1 dX10_reach_41 rfl rfl ?_
        refine r_iload_n C 2 2 dX10_reach_42 rfl rfl ?_
        refine r_iload_n C 3 3 dX10_reach_43 rfl rfl ?_
        obtain ⟨⟨⟩, σ10, e11, hF⟩ := bd_e hF
        refine r_callV_v (as := [vR (7, 0, 0), vI a1, vI a2, vI a3]) (st := []) C dX10_reach_44 (s_X2_begin G l e11) rfl rfl rfl t_4_55 t_4_56 t_4_57 t_1_8 t_4_58 m_X2_begin ⟨Nat.le_of_ble_eq_true rfl, Nat.le_of_ble_eq_true rfl⟩ ⟨rfl, rfl⟩ ⟨Nat.zero_le _, Nat.zero_le _⟩ rfl (Nat.le_of_ble_eq_true rfl) ?_
        refine r_aload_n C 0 0 dX10_reach_47 rfl rfl ?_
        refine r_getR (kf := 7) (d2 := (13, 0, 0)) C dX10_reach_48 rfl rfl f_X10 (by decide) t_2_102 rfl rfl ?_
        refine r_aload_n C 0 0 dX10_reach_51 rfl rfl ?_
        refine r_getR (kf := 4) (d2 := (3, 0, 0)) C dX10_reach_52 rfl rfl f_X10 (by decide) t_2_99 rfl rfl ?_
        refine r_iload C 4 dX10_reach_55 rfl ?_
        refine r_sipush (v := (400 : Int32)) C dX10_reach_57 rfl ?_
        obtain ⟨r13, σ12, e14, hF⟩ := bd_e hF
        refine r_callV_i (as := [vR (3, 0, 0), vI a4, vI (400 : Int32)]) (st := []) C dX10_reach_60 (s_X2_ticksTill G l e14) rfl rfl rfl t_4_73 t_4_74 t_4_75 t_1_8 t_4_76 m_X2_ticksTill ⟨Nat.le_of_ble_eq_true rfl, Nat.le_of_ble_eq_true rfl⟩ ⟨rfl, rfl⟩ ⟨Nat.zero_le _, Nat.zero_le _⟩ rfl (Nat.le_of_ble_eq_true rfl) ?_
        exact r_ireturn C dX10_reach_63 (rt_e hF)
      · have hF := if_t h15 hF
        refine r_bipush (v := (-2 : Int32)) C dX10_reach_30 rfl ?_
        exact r_ireturn C dX10_reach_32 (rt_e hF)
    · have hF := if_t h16 hF
      refine r_iconst (v := (-1 : Int32)) C dX10_reach_17 rfl ?_
      exact r_ireturn C dX10_reach_18 (rt_e hF)
def L_J7_fill_53178_t17_5 (c1 : Int32) (c3 : Int32) : Nat → Int32 → St → Option (Unit × St)
  | 0, _, _ => none
  | n + 1, v2, τ =>
  (if c3 ≤ v2 then some ((), τ) else ck (inb v2 384) (nam (uI τ (17, 0, 0) (v2.toNatClampNeg) c1) fun σ2 => nam (v2 + (1 : Int32)) fun x3 => L_J7_fill_53178_t17_5 c1 c3 n x3 σ2))
def F_J7_fill_53178_t17 (a1 : Int32) (σ : St) : Option (Unit × St) :=
  L_J7_fill_53178_t17_5 a1 (384 : Int32) FU (0 : Int32) σ 
set_option maxRecDepth 20000 in
set_option maxHeartbeats 4000000 in
theorem l_J7_fill_53178_t17_5 {G : Gx} {p : Program} {l : Launch} {e : Env} {s : State} {m : MethodId} {args : Array Value} {below : List Frame} {meth : Method} {c : Code} (C : Cx G p s m args meth c none 4 RJ7 cJ7_fill_53178) (c1 : Int32) (c3 : Int32) {σ' : St}  : ∀ (n : Nat) (v2 : Int32) (τ : St), L_J7_fill_53178_t17_5 c1 c3 n v2 τ = some ((), σ') → Rt G p l e (lvl 0) s m args below meth c 0 0 (MQ below (va_Qv (fun b => b = σ') (Wd G) (AG G)) args s 0 0 (AG G)) 4 5 [(0, vR (17, 0, 0)), (1, vI c1), (2, vI v2), (3, vI c3)] [] τ := by
  intro n
  induction n with
  | zero => intro v2 τ hF; cases hF
  | succ n ih =>
    intro v2 τ hF
    unfold L_J7_fill_53178_t17_5 at hF
    refine r_iload_n C 2 2 dJ7_fill_53178_5 rfl rfl ?_
    refine r_iload_n C 3 3 dJ7_fill_53178_6 rfl rfl ?_
    refine r_icmp_ge C 20 dJ7_fill_53178_7 (by decide)  (fun h4 => ?_) (fun h4 => ?_)
    · have hF := if_t h4 hF
      exact r_return C dJ7_fill_53178_20 (rv_e hF)
    · have hF := if_f h4 hF
      refine r_aload_n C 0 0 dJ7_fill_53178_10 rfl rfl ?_
      refine r_iload_n C 2 2 dJ7_fill_53178_11 rfl rfl ?_
      refine r_iload_n C 1 1 dJ7_fill_53178_12 rfl rfl ?_
      obtain ⟨h1, hF⟩ := ck_e hF
      obtain ⟨σ2, eσ2, hF⟩ := nam_e hF
      refine r_iastore C (v2.toNatClampNeg) dJ7_fill_53178_13 rfl h1 rfl eσ2 ?_
      obtain ⟨x3, ex3, hF⟩ := nam_e hF
      refine r_iinc (v := x3) (ls2 := [(2, vI x3), (0, vR (17, 0, 0)), (1, vI c1), (3, vI c3)]) C 2 dJ7_fill_53178_14 rfl ex3.symm (by decide) rfl ?_
      refine r_goto C 5 dJ7_fill_53178_17 (by decide) ?_
      refine r_drop (ls2 := [(0, vR (17, 0, 0)), (1, vI c1), (2, vI x3), (3, vI c3)]) [1, 2, 0, 3] rfl ?_
      exact ih _ _ hF
set_option maxRecDepth 20000 in
set_option maxHeartbeats 4000000 in
theorem s_J7_fill_53178_t17 (G : Gx) (l : Launch) {a1 : Int32} {σ σ' : St}  (hF : F_J7_fill_53178_t17 a1 σ = some ((), σ')) : Sp G l yJ7_fill_53178 cJ7_fill_53178 4 none (lvl 0) [vR (17, 0, 0), vI a1] σ (va_Qv (fun b => b = σ') (Wd G) (AG G)) := by
  refine Sp_of (own := RJ7) (by decide) rfl (Nat.le_of_ble_eq_true rfl) ?_
  intro p e s m args below meth c C
  show Rt G p l e (lvl 0) s m args below meth c 0 0 (MQ below (va_Qv (fun b => b = σ') (Wd G) (AG G)) args s 0 0 (AG G)) 4 0 [(0, vR (17, 0, 0)), (1, vI a1)] [] σ
  unfold F_J7_fill_53178_t17 at hF
  refine r_iconst (v := (0 : Int32)) C dJ7_fill_53178_0 rfl ?_
  refine r_istore_n (ls2 := [(2, vI (0 : Int32)), (0, vR (17, 0, 0)), (1, vI a1)]) C dJ7_fill_53178_1 2 rfl (by decide) rfl ?_
  refine r_aload_n C 1 0 dJ7_fill_53178_2 rfl rfl ?_
  refine r_alen (v := (384 : Int32)) C dJ7_fill_53178_3 rfl (by decide) rfl rfl ?_
  refine r_istore_n (ls2 := [(3, vI (384 : Int32)), (2, vI (0 : Int32)), (0, vR (17, 0, 0)), (1, vI a1)]) C dJ7_fill_53178_4 3 rfl (by decide) rfl ?_
  refine r_drop (ls2 := [(0, vR (17, 0, 0)), (1, vI a1), (2, vI (0 : Int32)), (3, vI (384 : Int32))]) [2, 3, 1, 0] rfl ?_
  refine l_J7_fill_53178_t17_5 C a1 (384 : Int32)  _ _ _ hF
def L_X3_follow_24 (q1 : Nat) (q2 : Nat) : Nat → Int32 → St → (Int32 → Int32 → St → Option (Int32 × St)) → Option (Int32 × St)
  | 0, _, _, _ => none
  | n + 1, v6, τ, kx78 =>
  (if (384 : Int32) < v6 then some ((-4 : Int32), τ) else nam (((τ.1 (10, 4, 0) 0) * (4 : Int32)) + (τ.1 (10, 4, 0) 2)) fun x5 => bd (F_X10_within x5 (0 : Int32) (383 : Int32) τ) fun r7 σ6 => (if r7 = 0 then some ((-4 : Int32), σ6) else ck (inb x5 384) ((if (σ6.1 (17, 0, 0) (x5.toNatClampNeg)) = (-4 : Int32) then ck (inb x5 384) (nam (uI σ6 (17, 0, 0) (x5.toNatClampNeg) v6) fun σ11 => bd (F_X6_wayOf q1 4 0 q2 (0 : Int32) σ11) fun r13 σ12 => bd (F_X6_stepOn q1 4 0 r13 σ12) fun _ σ15 => bd (F_X6_kindAt q1 (σ15.1 (10, 4, 0) 0) σ15) fun r18 σ17 => (if r18 = (6 : Int32) then some (σ17.1 (10, 4, 0) 0, σ17) else nam (v6 + (1 : Int32)) fun x20 => L_X3_follow_24 q1 q2 n x20 σ17 kx78)) else kx78 v6 x5 σ6))))
def F_X3_follow (q1 : Nat) (q2 : Nat) (a3 : Int32) (a4 : Int32) (a5 : Int32) (σ : St) : Option (Int32 × St) :=
  bd (F_J7_fill_53178_t17 (-4 : Int32) σ) fun _ σ1 => bd (F_X0_begin 4 0 a3 a4 a5 σ1) fun _ σ3 => L_X3_follow_24 q1 q2 FU (0 : Int32) σ3 (fun (y26 : Int32) (y27 : Int32) (σ25 : St) => ck (inb y27 384) (nam (uI σ25 (16, 0, 0) 2 (σ25.1 (17, 0, 0) (y27.toNatClampNeg))) fun σ29 => nam (uI σ29 (16, 0, 0) 3 (y26 - (σ29.1 (16, 0, 0) 2))) fun σ30 => some ((-4 : Int32), σ30)))
set_option maxRecDepth 20000 in
set_option maxHeartbeats 4000000 in
theorem l_X3_follow_24 {G : Gx} {p : Program} {l : Launch} {e : Env} {s : State} {m : MethodId} {args : Array Value} {below : List Frame} {meth : Method} {c : Code} (C : Cx G p s m args meth c (some .int) 8 RX3 cX3_follow) (q1 : Nat) (q2 : Nat) {σ' : St} {r : Int32} (kx78 : Int32 → Int32 → St → Option (Int32 × St)) (hkx78 : ∀ (w6 : Int32) (w7 : Int32) (τ : St), kx78 w6 w7 τ = some (r, σ') → Rt G p l e (lvl 2) s m args below meth c 0 0 (MQ below (va_Qi (fun a b => a = r ∧ b = σ') (Wd G) (AG G)) args s 0 0 (AG G)) 8 78 [(0, vR (16, 0, 0)), (6, vI w6), (7, vI w7)] [] τ) : ∀ (n : Nat) (v6 : Int32) (τ : St), L_X3_follow_24 q1 q2 n v6 τ kx78 = some (r, σ') → Rt G p l e (lvl 2) s m args below meth c 0 0 (MQ below (va_Qi (fun a b => a = r ∧ b = σ') (Wd G) (AG G)) args s 0 0 (AG G)) 8 24 [(0, vR (16, 0, 0)), (1, vR (7, q1, 0)), (2, vR (3, q2, 0)), (6, vI v6)] [] τ := by
  intro n
  induction n with
  | zero => intro v6 τ hF; cases hF
  | succ n ih =>
    intro v6 τ hF
    unfold L_X3_follow_24 at hF
    refine r_iload C 3 dX3_follow_24 rfl ?_
    refine r_sipush (v := (384 : Int32)) C dX3_follow_26 rfl ?_
    refine r_icmp_gt C 160 dX3_follow_29 (by decide)  (fun h24 => ?_) (fun h24 => ?_)
    · have hF := if_t h24 hF
      refine r_bipush (v := (-4 : Int32)) C dX3_follow_160 rfl ?_
      exact r_ireturn C dX3_follow_162 (rt_e hF)
    · have hF := if_f h24 hF
      refine r_aload_n C 0 0 dX3_follow_32 rfl rfl ?_
      refine r_getR (kf := 0) (d2 := (10, 4, 0)) C dX3_follow_33 rfl rfl f_X3 (by decide) t_2_8 rfl rfl ?_
      refine r_getI (kf := 0) C dX3_follow_36 rfl rfl f_X0 (by decide) t_1_118 rfl ?_
      refine r_iconst (v := (4 : Int32)) C dX3_follow_39 rfl ?_
      refine r_imul C dX3_follow_40 ?_
      refine r_aload_n C 0 0 dX3_follow_41 rfl rfl ?_
      refine r_getR (kf := 0) (d2 := (10, 4, 0)) C dX3_follow_42 rfl rfl f_X3 (by decide) t_2_8 rfl rfl ?_
      refine r_getI (kf := 2) C dX3_follow_45 rfl rfl f_X0 (by decide) t_1_126 rfl ?_
      refine r_iadd C dX3_follow_48 ?_
      obtain ⟨x5, ex5, hF⟩ := nam_e hF
      refine r_topI ex5 ?_
      refine r_istore (ls2 := [(7, vI x5), (0, vR (16, 0, 0)), (1, vR (7, q1, 0)), (2, vR (3, q2, 0)), (6, vI v6)]) C dX3_follow_49 (by decide) rfl ?_
      refine r_iload C 0 dX3_follow_51 rfl ?_
      refine r_iconst (v := (0 : Int32)) C dX3_follow_53 rfl ?_
      refine r_sipush (v := (383 : Int32)) C dX3_follow_54 rfl ?_
      obtain ⟨r7, σ6, e8, hF⟩ := bd_e hF
      refine r_callN_i (as := [vI x5, vI (0 : Int32), vI (383 : Int32)]) (st := []) C dX3_follow_57 (s_X10_within G l e8) (by decide) t_2_144 t_1_1 t_2_145 m_X10_within ⟨Nat.le_of_ble_eq_true rfl, Nat.le_of_ble_eq_true rfl⟩ ⟨rfl, rfl⟩ ⟨Nat.zero_le _, Nat.zero_le _⟩ rfl (Nat.le_of_ble_eq_true rfl) ?_
      refine r_if_ne C 66 dX3_follow_60 (by decide)  (fun h23 => ?_) (fun h23 => ?_)
      · have hF := if_f h23 hF
        refine r_aload_n C 1 0 dX3_follow_66 rfl rfl ?_
        refine r_getR (kf := 1) (d2 := (17, 0, 0)) C dX3_follow_67 rfl rfl f_X3 (by decide) t_2_9 rfl rfl ?_
        refine r_iload C 0 dX3_follow_70 rfl ?_
        obtain ⟨h9, hF⟩ := ck_e hF
        refine r_iaload C (x5.toNatClampNeg) dX3_follow_72 rfl h9 rfl ?_
        refine r_bipush (v := (-4 : Int32)) C dX3_follow_73 rfl ?_
        refine r_icmp_eq C 103 dX3_follow_75 (by decide)  (fun h22 => ?_) (fun h22 => ?_)
        · have hF := if_t h22 hF
          refine r_aload_n C 1 0 dX3_follow_103 rfl rfl ?_
          refine r_getR (kf := 1) (d2 := (17, 0, 0)) C dX3_follow_104 rfl rfl f_X3 (by decide) t_2_9 rfl rfl ?_
          refine r_iload C 0 dX3_follow_107 rfl ?_
          refine r_iload C 4 dX3_follow_109 rfl ?_
          obtain ⟨h10, hF⟩ := ck_e hF
          obtain ⟨σ11, eσ11, hF⟩ := nam_e hF
          refine r_iastore C (x5.toNatClampNeg) dX3_follow_111 rfl h10 rfl eσ11 ?_
          refine r_aload_n C 2 1 dX3_follow_112 rfl rfl ?_
          refine r_aload_n C 1 0 dX3_follow_113 rfl rfl ?_
          refine r_getR (kf := 0) (d2 := (10, 4, 0)) C dX3_follow_114 rfl rfl f_X3 (by decide) t_2_8 rfl rfl ?_
          refine r_aload_n C 2 1 dX3_follow_117 rfl rfl ?_
          refine r_aload_n C 1 0 dX3_follow_118 rfl rfl ?_
          refine r_getR (kf := 0) (d2 := (10, 4, 0)) C dX3_follow_119 rfl rfl f_X3 (by decide) t_2_8 rfl rfl ?_
          refine r_aload_n C 3 2 dX3_follow_122 rfl rfl ?_
          refine r_iconst (v := (0 : Int32)) C dX3_follow_123 rfl ?_
          obtain ⟨r13, σ12, e14, hF⟩ := bd_e hF
          refine r_callV_i (as := [vR (10, 4, 0), vR (3, q2, 0), vI (0 : Int32)]) (st := [vR (10, 4, 0), vR (7, q1, 0)]) C dX3_follow_124 (s_X6_wayOf G l e14) rfl rfl rfl t_4_89 t_3_218 t_3_219 t_1_5 t_3_220 m_X6_wayOf ⟨Nat.le_of_ble_eq_true rfl, Nat.le_of_ble_eq_true rfl⟩ ⟨rfl, rfl⟩ ⟨Nat.zero_le _, Nat.zero_le _⟩ rfl (Nat.le_of_ble_eq_true rfl) ?_
          obtain ⟨⟨⟩, σ15, e16, hF⟩ := bd_e hF
          refine r_callV_v (as := [vR (10, 4, 0), vI r13]) (st := []) C dX3_follow_127 (s_X6_stepOn G l e16) rfl rfl rfl t_4_90 t_3_231 t_3_232 t_1_5 t_3_233 m_X6_stepOn ⟨Nat.le_of_ble_eq_true rfl, Nat.le_of_ble_eq_true rfl⟩ ⟨rfl, rfl⟩ ⟨Nat.zero_le _, Nat.zero_le _⟩ rfl (Nat.le_of_ble_eq_true rfl) ?_
          refine r_aload_n C 2 1 dX3_follow_130 rfl rfl ?_
          refine r_aload_n C 1 0 dX3_follow_131 rfl rfl ?_
          refine r_getR (kf := 0) (d2 := (10, 4, 0)) C dX3_follow_132 rfl rfl f_X3 (by decide) t_2_8 rfl rfl ?_
          refine r_getI (kf := 0) C dX3_follow_135 rfl rfl f_X0 (by decide) t_1_118 rfl ?_
          obtain ⟨r18, σ17, e19, hF⟩ := bd_e hF
          refine r_callV_i (as := [vI (σ15.1 (10, 4, 0) 0)]) (st := []) C dX3_follow_138 (s_X6_kindAt G l e19) rfl rfl rfl t_4_91 t_3_124 t_3_125 t_1_5 t_3_126 m_X6_kindAt ⟨Nat.le_of_ble_eq_true rfl, Nat.le_of_ble_eq_true rfl⟩ ⟨rfl, rfl⟩ ⟨Nat.zero_le _, Nat.zero_le _⟩ rfl (Nat.le_of_ble_eq_true rfl) ?_
          refine r_bipush (v := (6 : Int32)) C dX3_follow_141 rfl ?_
          refine r_icmp_ne C 154 dX3_follow_143 (by decide)  (fun h21 => ?_) (fun h21 => ?_)
          · have hF := if_f h21 hF
            obtain ⟨x20, ex20, hF⟩ := nam_e hF
            refine r_iinc (v := x20) (ls2 := [(6, vI x20), (7, vI x5), (0, vR (16, 0, 0)), (1, vR (7, q1, 0)), (2, vR (3, q2, 0))]) C 4 dX3_follow_154 rfl ex20.symm (by decide) rfl ?_
            refine r_goto C 24 dX3_follow_157 (by decide) ?_
            refine r_drop (ls2 := [(0, vR (16, 0, 0)), (1, vR (7, q1, 0)), (2, vR (3, q2, 0)), (6, vI x20)]) [2, 3, 4, 0] rfl ?_
            exact ih _ _ hF
          · have hF := if_t h21 hF
            refine r_aload_n C 1 0 dX3_follow_146 rfl rfl ?_
            refine r_getR (kf := 0) (d2 := (10, 4, 0)) C dX3_follow_147 rfl rfl f_X3 (by decide) t_2_8 rfl rfl ?_
            refine r_getI (kf := 0) C dX3_follow_150 rfl rfl f_X0 (by decide) t_1_118 rfl ?_
            exact r_ireturn C dX3_follow_153 (rt_e hF)
        · have hF := if_f h22 hF
          refine r_drop (ls2 := [(0, vR (16, 0, 0)), (6, vI v6), (7, vI x5)]) [1, 4, 0] rfl ?_
          exact hkx78 _ _ _ hF
      · have hF := if_t h23 hF
        refine r_bipush (v := (-4 : Int32)) C dX3_follow_63 rfl ?_
        exact r_ireturn C dX3_follow_65 (rt_e hF)
set_option maxRecDepth 20000 in
set_option maxHeartbeats 4000000 in
theorem s_X3_follow (G : Gx) (l : Launch) {q1 : Nat} {q2 : Nat} {a3 : Int32} {a4 : Int32} {a5 : Int32} {σ σ' : St} {r : Int32} (hF : F_X3_follow q1 q2 a3 a4 a5 σ = some (r, σ')) : Sp G l yX3_follow cX3_follow 8 (some .int) (lvl 2) [vR (16, 0, 0), vR (7, q1, 0), vR (3, q2, 0), vI a3, vI a4, vI a5] σ (va_Qi (fun a b => a = r ∧ b = σ') (Wd G) (AG G)) := by
  refine Sp_of (own := RX3) (by decide) rfl (Nat.le_of_ble_eq_true rfl) ?_
  intro p e s m args below meth c C
  show Rt G p l e (lvl 2) s m args below meth c 0 0 (MQ below (va_Qi (fun a b => a = r ∧ b = σ') (Wd G) (AG G)) args s 0 0 (AG G)) 8 0 [(0, vR (16, 0, 0)), (1, vR (7, q1, 0)), (2, vR (3, q2, 0)), (3, vI a3), (4, vI a4), (5, vI a5)] [] σ
  unfold F_X3_follow at hF
  refine r_aload_n C 0 0 dX3_follow_0 rfl rfl ?_
  refine r_getR (kf := 1) (d2 := (17, 0, 0)) C dX3_follow_1 rfl rfl f_X3 (by decide) t_2_9 rfl rfl ?_
  refine r_bipush (v := (-4 : Int32)) C dX3_follow_4 rfl ?_
  obtain ⟨⟨⟩, σ1, e2, hF⟩ := bd_e hF
  refine r_callS_v (as := [vR (17, 0, 0), vI (-4 : Int32)]) (st := []) C dX3_follow_6 (s_J7_fill_53178_t17 G l e2) t_4_86 t_1_110 t_1_6 t_1_111 m_J7_fill_53178 ⟨Nat.le_of_ble_eq_true rfl, Nat.le_of_ble_eq_true rfl⟩ ⟨rfl, rfl⟩ ⟨Nat.zero_le _, Nat.zero_le _⟩ rfl (Nat.le_of_ble_eq_true rfl) ?_
  refine r_aload_n C 0 0 dX3_follow_9 rfl rfl ?_
  refine r_getR (kf := 0) (d2 := (10, 4, 0)) C dX3_follow_10 rfl rfl f_X3 (by decide) t_2_8 rfl rfl ?_
  refine r_iload_n C 3 3 dX3_follow_13 rfl rfl ?_
  refine r_iload C 4 dX3_follow_14 rfl ?_
  refine r_iload C 5 dX3_follow_16 rfl ?_
  obtain ⟨⟨⟩, σ3, e4, hF⟩ := bd_e hF
  refine r_callV_v (as := [vI a3, vI a4, vI a5]) (st := []) C dX3_follow_18 (s_X0_begin G l e4) rfl rfl rfl t_4_87 t_3_173 t_3_174 t_1_7 t_3_175 m_X0_begin ⟨Nat.le_of_ble_eq_true rfl, Nat.le_of_ble_eq_true rfl⟩ ⟨rfl, rfl⟩ ⟨Nat.zero_le _, Nat.zero_le _⟩ rfl (Nat.le_of_ble_eq_true rfl) ?_
  refine r_iconst (v := (0 : Int32)) C dX3_follow_21 rfl ?_
  refine r_istore (ls2 := [(6, vI (0 : Int32)), (0, vR (16, 0, 0)), (1, vR (7, q1, 0)), (2, vR (3, q2, 0)), (3, vI a3), (4, vI a4), (5, vI a5)]) C dX3_follow_22 (by decide) rfl ?_
  refine r_drop (ls2 := [(0, vR (16, 0, 0)), (1, vR (7, q1, 0)), (2, vR (3, q2, 0)), (6, vI (0 : Int32))]) [1, 2, 3, 0] rfl ?_
  refine l_X3_follow_24 C q1 q2 _ ?_ _ _ _ hF
  · intro y26 y27 σ25 hF
    refine r_aload_n C 0 0 dX3_follow_78 rfl rfl ?_
    refine r_aload_n C 0 0 dX3_follow_79 rfl rfl ?_
    refine r_getR (kf := 1) (d2 := (17, 0, 0)) C dX3_follow_80 rfl rfl f_X3 (by decide) t_2_9 rfl rfl ?_
    refine r_iload C 2 dX3_follow_83 rfl ?_
    obtain ⟨h28, hF⟩ := ck_e hF
    refine r_iaload C (y27.toNatClampNeg) dX3_follow_85 rfl h28 rfl ?_
    obtain ⟨σ29, eσ29, hF⟩ := nam_e hF
    refine r_put (kf := 2) (ty0 := tyX3) C dX3_follow_86 rfl rfl f_X3 tyX3_ok nmX3 (by decide) t_2_10 rfl rfl rfl rfl eσ29 ?_
    refine r_aload_n C 0 0 dX3_follow_89 rfl rfl ?_
    refine r_iload C 1 dX3_follow_90 rfl ?_
    refine r_aload_n C 0 0 dX3_follow_92 rfl rfl ?_
    refine r_getI (kf := 2) C dX3_follow_93 rfl rfl f_X3 (by decide) t_2_10 rfl ?_
    refine r_isub C dX3_follow_96 ?_
    obtain ⟨σ30, eσ30, hF⟩ := nam_e hF
    refine r_put (kf := 3) (ty0 := tyX3) C dX3_follow_97 rfl rfl f_X3 tyX3_ok nmX3 (by decide) t_2_12 rfl rfl rfl rfl eσ30 ?_
    refine r_bipush (v := (-4 : Int32)) C dX3_follow_100 rfl ?_
    exact r_ireturn C dX3_follow_102 (rt_e hF)
def L_X3_cellsRound_15 (c1 : Int32) (c2 : Int32) : Nat → Int32 → Int32 → St → (Int32 → St → Option (Int32 × St)) → Option (Int32 × St)
  | 0, _, _, _, _ => none
  | n + 1, v3, v4, τ, kx55 =>
  (if (4 : Int32) ≤ v4 then kx55 v3 τ else nam (fun (y1 : Int32) (σ3 : St) => nam (v4 + (1 : Int32)) fun x4 => L_X3_cellsRound_15 c1 c2 n y1 x4 σ3 kx55) fun k2 => (if v3 = 0 then ck (inb ((c2 * (4 : Int32)) + v4) 384) ((if (τ.1 (17, 0, 0) (((c2 * (4 : Int32)) + v4).toNatClampNeg)) < (τ.1 (16, 0, 0) 2) then k2 (0 : Int32) τ else k2 (1 : Int32) τ)) else k2 (1 : Int32) τ))
def L_X3_cellsRound_4  : Nat → Int32 → Int32 → St → Option (Int32 × St)
  | 0, _, _, _ => none
  | n + 1, v1, v2, τ =>
  (if (96 : Int32) ≤ v2 then some (v1, τ) else L_X3_cellsRound_15 v1 v2 FU (0 : Int32) (0 : Int32) τ (fun (y10 : Int32) (σ9 : St) => nam (fun (y11 : Int32) (σ13 : St) => nam (v1 + y11) fun x14 => nam (v2 + (1 : Int32)) fun x15 => L_X3_cellsRound_4 n x14 x15 σ13) fun k12 => (if y10 = 0 then k12 (0 : Int32) σ9 else k12 (1 : Int32) σ9)))
def F_X3_cellsRound  (σ : St) : Option (Int32 × St) :=
  L_X3_cellsRound_4  FU (0 : Int32) (0 : Int32) σ 
set_option maxRecDepth 20000 in
set_option maxHeartbeats 4000000 in
theorem l_X3_cellsRound_15 {G : Gx} {p : Program} {l : Launch} {e : Env} {s : State} {m : MethodId} {args : Array Value} {below : List Frame} {meth : Method} {c : Code} (C : Cx G p s m args meth c (some .int) 5 RX3 cX3_cellsRound) (c1 : Int32) (c2 : Int32) {σ' : St} {r : Int32} (kx55 : Int32 → St → Option (Int32 × St)) (hkx55 : ∀ (w3 : Int32) (τ : St), kx55 w3 τ = some (r, σ') → Rt G p l e (lvl 0) s m args below meth c 0 0 (MQ below (va_Qi (fun a b => a = r ∧ b = σ') (Wd G) (AG G)) args s 0 0 (AG G)) 5 55 [(0, vR (16, 0, 0)), (1, vI c1), (2, vI c2), (3, vI w3)] [] τ) : ∀ (n : Nat) (v3 : Int32) (v4 : Int32) (τ : St), L_X3_cellsRound_15 c1 c2 n v3 v4 τ kx55 = some (r, σ') → Rt G p l e (lvl 0) s m args below meth c 0 0 (MQ below (va_Qi (fun a b => a = r ∧ b = σ') (Wd G) (AG G)) args s 0 0 (AG G)) 5 15 [(0, vR (16, 0, 0)), (1, vI c1), (2, vI c2), (3, vI v3), (4, vI v4)] [] τ := by
  intro n
  induction n with
  | zero => intro v3 v4 τ hF; cases hF
  | succ n ih =>
    intro v3 v4 τ hF
    unfold L_X3_cellsRound_15 at hF
    refine r_iload C 4 dX3_cellsRound_15 rfl ?_
    refine r_iconst (v := (4 : Int32)) C dX3_cellsRound_17 rfl ?_
    refine r_icmp_ge C 55 dX3_cellsRound_18 (by decide)  (fun h8 => ?_) (fun h8 => ?_)
    · have hF := if_t h8 hF
      refine r_drop (ls2 := [(0, vR (16, 0, 0)), (1, vI c1), (2, vI c2), (3, vI v3)]) [0, 1, 2, 3] rfl ?_
      exact hkx55 _ _ hF
    · have hF := if_f h8 hF
      refine r_iload_n C 3 3 dX3_cellsRound_21 rfl rfl ?_
      obtain ⟨k2, ek2, hF⟩ := nam_e hF
      have hk2 : ∀ (y1 : Int32) (σ3 : St), k2 y1 σ3 = some (r, σ') → Rt G p l e (lvl 0) s m args below meth c 0 0 (MQ below (va_Qi (fun a b => a = r ∧ b = σ') (Wd G) (AG G)) args s 0 0 (AG G)) 5 48 [(0, vR (16, 0, 0)), (1, vI c1), (2, vI c2), (4, vI v4)] [vI y1] σ3 := by
        intro y1 σ3 hF
        subst ek2
        refine r_istore_n (ls2 := [(3, vI y1), (0, vR (16, 0, 0)), (1, vI c1), (2, vI c2), (4, vI v4)]) C dX3_cellsRound_48 3 rfl (by decide) rfl ?_
        obtain ⟨x4, ex4, hF⟩ := nam_e hF
        refine r_iinc (v := x4) (ls2 := [(4, vI x4), (3, vI y1), (0, vR (16, 0, 0)), (1, vI c1), (2, vI c2)]) C 4 dX3_cellsRound_49 rfl ex4.symm (by decide) rfl ?_
        refine r_goto C 15 dX3_cellsRound_52 (by decide) ?_
        refine r_drop (ls2 := [(0, vR (16, 0, 0)), (1, vI c1), (2, vI c2), (3, vI y1), (4, vI x4)]) [2, 3, 4, 1, 0] rfl ?_
        exact ih _ _ _ hF
      refine r_if_ne C 43 dX3_cellsRound_22 (by decide)  (fun h7 => ?_) (fun h7 => ?_)
      · have hF := if_f h7 hF
        refine r_iconst (v := (1 : Int32)) C dX3_cellsRound_43 rfl ?_
        refine r_goto C 48 dX3_cellsRound_44 (by decide) ?_
        refine r_drop (ls2 := [(0, vR (16, 0, 0)), (1, vI c1), (2, vI c2), (4, vI v4)]) [0, 1, 2, 4] rfl ?_
        exact hk2 _ _ hF
      · have hF := if_t h7 hF
        refine r_aload_n C 0 0 dX3_cellsRound_25 rfl rfl ?_
        refine r_getR (kf := 1) (d2 := (17, 0, 0)) C dX3_cellsRound_26 rfl rfl f_X3 (by decide) t_2_9 rfl rfl ?_
        refine r_iload_n C 2 2 dX3_cellsRound_29 rfl rfl ?_
        refine r_iconst (v := (4 : Int32)) C dX3_cellsRound_30 rfl ?_
        refine r_imul C dX3_cellsRound_31 ?_
        refine r_iload C 4 dX3_cellsRound_32 rfl ?_
        refine r_iadd C dX3_cellsRound_34 ?_
        obtain ⟨h5, hF⟩ := ck_e hF
        refine r_iaload C (((c2 * (4 : Int32)) + v4).toNatClampNeg) dX3_cellsRound_35 rfl h5 rfl ?_
        refine r_aload_n C 0 0 dX3_cellsRound_36 rfl rfl ?_
        refine r_getI (kf := 2) C dX3_cellsRound_37 rfl rfl f_X3 (by decide) t_2_10 rfl ?_
        refine r_icmp_lt C 47 dX3_cellsRound_40 (by decide)  (fun h6 => ?_) (fun h6 => ?_)
        · have hF := if_t h6 hF
          refine r_iconst (v := (0 : Int32)) C dX3_cellsRound_47 rfl ?_
          refine r_drop (ls2 := [(0, vR (16, 0, 0)), (1, vI c1), (2, vI c2), (4, vI v4)]) [0, 1, 2, 4] rfl ?_
          exact hk2 _ _ hF
        · have hF := if_f h6 hF
          refine r_iconst (v := (1 : Int32)) C dX3_cellsRound_43 rfl ?_
          refine r_goto C 48 dX3_cellsRound_44 (by decide) ?_
          refine r_drop (ls2 := [(0, vR (16, 0, 0)), (1, vI c1), (2, vI c2), (4, vI v4)]) [0, 1, 2, 4] rfl ?_
          exact hk2 _ _ hF
set_option maxRecDepth 20000 in
set_option maxHeartbeats 4000000 in
theorem l_X3_cellsRound_4 {G : Gx} {p : Program} {l : Launch} {e : Env} {s : State} {m : MethodId} {args : Array Value} {below : List Frame} {meth : Method} {c : Code} (C : Cx G p s m args meth c (some .int) 5 RX3 cX3_cellsRound)  {σ' : St} {r : Int32} : ∀ (n : Nat) (v1 : Int32) (v2 : Int32) (τ : St), L_X3_cellsRound_4  n v1 v2 τ = some (r, σ') → Rt G p l e (lvl 0) s m args below meth c 0 0 (MQ below (va_Qi (fun a b => a = r ∧ b = σ') (Wd G) (AG G)) args s 0 0 (AG G)) 5 4 [(0, vR (16, 0, 0)), (1, vI v1), (2, vI v2)] [] τ := by
  intro n
  induction n with
  | zero => intro v1 v2 τ hF; cases hF
  | succ n ih =>
    intro v1 v2 τ hF
    unfold L_X3_cellsRound_4 at hF
    refine r_iload_n C 2 2 dX3_cellsRound_4 rfl rfl ?_
    refine r_bipush (v := (96 : Int32)) C dX3_cellsRound_5 rfl ?_
    refine r_icmp_ge C 73 dX3_cellsRound_7 (by decide)  (fun h17 => ?_) (fun h17 => ?_)
    · have hF := if_t h17 hF
      refine r_iload_n C 1 1 dX3_cellsRound_73 rfl rfl ?_
      exact r_ireturn C dX3_cellsRound_74 (rt_e hF)
    · have hF := if_f h17 hF
      refine r_iconst (v := (0 : Int32)) C dX3_cellsRound_10 rfl ?_
      refine r_istore_n (ls2 := [(3, vI (0 : Int32)), (0, vR (16, 0, 0)), (1, vI v1), (2, vI v2)]) C dX3_cellsRound_11 3 rfl (by decide) rfl ?_
      refine r_iconst (v := (0 : Int32)) C dX3_cellsRound_12 rfl ?_
      refine r_istore (ls2 := [(4, vI (0 : Int32)), (3, vI (0 : Int32)), (0, vR (16, 0, 0)), (1, vI v1), (2, vI v2)]) C dX3_cellsRound_13 (by decide) rfl ?_
      refine r_drop (ls2 := [(0, vR (16, 0, 0)), (1, vI v1), (2, vI v2), (3, vI (0 : Int32)), (4, vI (0 : Int32))]) [2, 3, 4, 1, 0] rfl ?_
      refine l_X3_cellsRound_15 C v1 v2 _ ?_ _ _ _ _ hF
      · intro y10 σ9 hF
        refine r_iload_n C 1 1 dX3_cellsRound_55 rfl rfl ?_
        refine r_iload_n C 3 3 dX3_cellsRound_56 rfl rfl ?_
        obtain ⟨k12, ek12, hF⟩ := nam_e hF
        have hk12 : ∀ (y11 : Int32) (σ13 : St), k12 y11 σ13 = some (r, σ') → Rt G p l e (lvl 0) s m args below meth c 0 0 (MQ below (va_Qi (fun a b => a = r ∧ b = σ') (Wd G) (AG G)) args s 0 0 (AG G)) 5 65 [(0, vR (16, 0, 0)), (2, vI v2)] [vI y11, vI v1] σ13 := by
          intro y11 σ13 hF
          subst ek12
          refine r_iadd C dX3_cellsRound_65 ?_
          obtain ⟨x14, ex14, hF⟩ := nam_e hF
          refine r_topI ex14 ?_
          refine r_istore_n (ls2 := [(1, vI x14), (0, vR (16, 0, 0)), (2, vI v2)]) C dX3_cellsRound_66 1 rfl (by decide) rfl ?_
          obtain ⟨x15, ex15, hF⟩ := nam_e hF
          refine r_iinc (v := x15) (ls2 := [(2, vI x15), (1, vI x14), (0, vR (16, 0, 0))]) C 2 dX3_cellsRound_67 rfl ex15.symm (by decide) rfl ?_
          refine r_goto C 4 dX3_cellsRound_70 (by decide) ?_
          refine r_drop (ls2 := [(0, vR (16, 0, 0)), (1, vI x14), (2, vI x15)]) [2, 1, 0] rfl ?_
          exact ih _ _ _ hF
        refine r_if_eq C 64 dX3_cellsRound_57 (by decide)  (fun h16 => ?_) (fun h16 => ?_)
        · have hF := if_t h16 hF
          refine r_iconst (v := (0 : Int32)) C dX3_cellsRound_64 rfl ?_
          refine r_drop (ls2 := [(0, vR (16, 0, 0)), (2, vI v2)]) [0, 2] rfl ?_
          exact hk12 _ _ hF
        · have hF := if_f h16 hF
          refine r_iconst (v := (1 : Int32)) C dX3_cellsRound_60 rfl ?_
          refine r_goto C 65 dX3_cellsRound_61 (by decide) ?_
          refine r_drop (ls2 := [(0, vR (16, 0, 0)), (2, vI v2)]) [0, 2] rfl ?_
          exact hk12 _ _ hF
set_option maxRecDepth 20000 in
set_option maxHeartbeats 4000000 in
theorem s_X3_cellsRound (G : Gx) (l : Launch)  {σ σ' : St} {r : Int32} (hF : F_X3_cellsRound  σ = some (r, σ')) : Sp G l yX3_cellsRound cX3_cellsRound 5 (some .int) (lvl 0) [vR (16, 0, 0)] σ (va_Qi (fun a b => a = r ∧ b = σ') (Wd G) (AG G)) := by
  refine Sp_of (own := RX3) (by decide) rfl (Nat.le_of_ble_eq_true rfl) ?_
  intro p e s m args below meth c C
  show Rt G p l e (lvl 0) s m args below meth c 0 0 (MQ below (va_Qi (fun a b => a = r ∧ b = σ') (Wd G) (AG G)) args s 0 0 (AG G)) 5 0 [(0, vR (16, 0, 0))] [] σ
  unfold F_X3_cellsRound at hF
  refine r_iconst (v := (0 : Int32)) C dX3_cellsRound_0 rfl ?_
  refine r_istore_n (ls2 := [(1, vI (0 : Int32)), (0, vR (16, 0, 0))]) C dX3_cellsRound_1 1 rfl (by decide) rfl ?_
  refine r_iconst (v := (0 : Int32)) C dX3_cellsRound_2 rfl ?_
  refine r_istore_n (ls2 := [(2, vI (0 : Int32)), (1, vI (0 : Int32)), (0, vR (16, 0, 0))]) C dX3_cellsRound_3 2 rfl (by decide) rfl ?_
  refine r_drop (ls2 := [(0, vR (16, 0, 0)), (1, vI (0 : Int32)), (2, vI (0 : Int32))]) [2, 1, 0] rfl ?_
  refine l_X3_cellsRound_4 C   _ _ _ _ hF
def F_X10_ring (a1 : Int32) (a2 : Int32) (a3 : Int32) (a4 : Int32) (σ : St) : Option (Int32 × St) :=
  bd (F_X10_isDropToBe a1 a2 a3 σ) fun r2 σ1 => (if r2 = 0 then some ((-1 : Int32), σ1) else bd (F_X10_within a4 (0 : Int32) (2 : Int32) σ1) fun r5 σ4 => (if r5 = 0 then some ((-1 : Int32), σ4) else bd (F_X6_isOpen 0 a1 σ4) fun r8 σ7 => (if r8 = 0 then some ((-2 : Int32), σ7) else bd (F_X3_follow 0 0 a1 a2 a3 σ7) fun r11 σ10 => (if r11 = (-4 : Int32) then (if a4 = (0 : Int32) then some (σ10.1 (16, 0, 0) 2, σ10) else (if a4 = (1 : Int32) then some (σ10.1 (16, 0, 0) 3, σ10) else bd (F_X3_cellsRound  σ10) fun r16 σ15 => some (r16, σ15))) else some ((-4 : Int32), σ10)))))
set_option maxRecDepth 20000 in
set_option maxHeartbeats 4000000 in
theorem s_X10_ring (G : Gx) (l : Launch) {a1 : Int32} {a2 : Int32} {a3 : Int32} {a4 : Int32} {σ σ' : St} {r : Int32} (hF : F_X10_ring a1 a2 a3 a4 σ = some (r, σ')) : Sp G l yX10_ring cX10_ring 5 (some .int) (lvl 3) [vR (0, 0, 0), vI a1, vI a2, vI a3, vI a4] σ (va_Qi (fun a b => a = r ∧ b = σ') (Wd G) (AG G)) := by
  refine Sp_of (own := RX10) (by decide) rfl (Nat.le_of_ble_eq_true rfl) ?_
  intro p e s m args below meth c C
  show Rt G p l e (lvl 3) s m args below meth c 0 0 (MQ below (va_Qi (fun a b => a = r ∧ b = σ') (Wd G) (AG G)) args s 0 0 (AG G)) 5 0 [(0, vR (0, 0, 0)), (1, vI a1), (2, vI a2), (3, vI a3), (4, vI a4)] [] σ
  unfold F_X10_ring at hF
  refine r_iload_n C 1 1 dX10_ring_0 rfl rfl ?_
  refine r_iload_n C 2 2 dX10_ring_1 rfl rfl ?_
  refine r_iload_n C 3 3 dX10_ring_2 rfl rfl ?_
  obtain ⟨r2, σ1, e3, hF⟩ := bd_e hF
  refine r_callS_i (as := [vI a1, vI a2, vI a3]) (st := []) C dX10_ring_3 (s_X10_isDropToBe G l e3) t_3_154 t_3_155 t_1_1 t_3_156 m_X10_isDropToBe ⟨Nat.le_of_ble_eq_true rfl, Nat.le_of_ble_eq_true rfl⟩ ⟨rfl, rfl⟩ ⟨Nat.zero_le _, Nat.zero_le _⟩ rfl (Nat.le_of_ble_eq_true rfl) ?_
  refine r_if_eq C 19 dX10_ring_6 (by decide)  (fun h21 => ?_) (fun h21 => ?_)
  · have hF := if_t h21 hF
    refine r_iconst (v := (-1 : Int32)) C dX10_ring_19 rfl ?_
    exact r_ireturn C dX10_ring_20 (rt_e hF)
  · have hF := if_f h21 hF
    refine r_iload C 4 dX10_ring_9 rfl ?_
    refine r_iconst (v := (0 : Int32)) C dX10_ring_11 rfl ?_
    refine r_iconst (v := (2 : Int32)) C dX10_ring_12 rfl ?_
    obtain ⟨r5, σ4, e6, hF⟩ := bd_e hF
    refine r_callS_i (as := [vI a4, vI (0 : Int32), vI (2 : Int32)]) (st := []) C dX10_ring_13 (s_X10_within G l e6) t_2_143 t_2_144 t_1_1 t_2_145 m_X10_within ⟨Nat.le_of_ble_eq_true rfl, Nat.le_of_ble_eq_true rfl⟩ ⟨rfl, rfl⟩ ⟨Nat.zero_le _, Nat.zero_le _⟩ rfl (Nat.le_of_ble_eq_true rfl) ?_
    refine r_if_ne C 21 dX10_ring_16 (by decide)  (fun h20 => ?_) (fun h20 => ?_)
    · have hF := if_f h20 hF
      refine r_aload_n C 0 0 dX10_ring_21 rfl rfl ?_
      refine r_getR (kf := 5) (d2 := (7, 0, 0)) C dX10_ring_22 rfl rfl f_X10 (by decide) t_2_100 rfl rfl ?_
      refine r_iload_n C 1 1 dX10_ring_25 rfl rfl ?_
      obtain ⟨r8, σ7, e9, hF⟩ := bd_e hF
      refine r_callV_i (as := [vI a1]) (st := []) C dX10_ring_26 (s_X6_isOpen G l e9) rfl rfl rfl t_3_163 t_3_164 t_3_165 t_1_5 t_3_166 m_X6_isOpen ⟨Nat.le_of_ble_eq_true rfl, Nat.le_of_ble_eq_true rfl⟩ ⟨rfl, rfl⟩ ⟨Nat.zero_le _, Nat.zero_le _⟩ rfl (Nat.le_of_ble_eq_true rfl) ?_
      refine r_if_ne C 35 dX10_ring_29 (by decide)  (fun h19 => ?_) (fun h19 => ?_)
      · have hF := if_f h19 hF
        refine r_aload_n C 0 0 dX10_ring_35 rfl rfl ?_
        refine r_getR (kf := 8) (d2 := (16, 0, 0)) C dX10_ring_36 rfl rfl f_X10 (by decide) t_2_103 rfl rfl ?_
        refine r_aload_n C 0 0 dX10_ring_39 rfl rfl ?_
        refine r_getR (kf := 5) (d2 := (7, 0, 0)) C dX10_ring_40 rfl rfl f_X10 (by decide) t_2_100 rfl rfl ?_
        refine r_aload_n C 0 0 dX10_ring_43 rfl rfl ?_
        refine r_getR (kf := 4) (d2 := (3, 0, 0)) C dX10_ring_44 rfl rfl f_X10 (by decide) t_2_99 rfl rfl ?_
        refine r_iload_n C 1 1 dX10_ring_47 rfl rfl ?_
        refine r_iload_n C 2 2 dX10_ring_48 rfl rfl ?_
        refine r_iload_n C 3 3 dX10_ring_49 rfl rfl ?_
        obtain ⟨r11, σ10, e12, hF⟩ := bd_e hF
        refine r_callV_i (as := [vR (7, 0, 0), vR (3, 0, 0), vI a1, vI a2, vI a3]) (st := []) C dX10_ring_50 (s_X3_follow G l e12) rfl rfl rfl t_4_82 t_4_83 t_4_84 t_1_9 t_4_85 m_X3_follow ⟨Nat.le_of_ble_eq_true rfl, Nat.le_of_ble_eq_true rfl⟩ ⟨rfl, rfl⟩ ⟨Nat.zero_le _, Nat.zero_le _⟩ rfl (Nat.le_of_ble_eq_true rfl) ?_
        refine r_bipush (v := (-4 : Int32)) C dX10_ring_53 rfl ?_
        refine r_icmp_eq C 61 dX10_ring_55 (by decide)  (fun h18 => ?_) (fun h18 => ?_)
        · have hF := if_t h18 hF
          refine r_iload C 4 dX10_ring_61 rfl ?_
          by_cases h13 : a4 = (0 : Int32)
          · have hF := if_t h13 hF
            refine r_look (off := 25) C 88 dX10_ring_63 (by decide) (by rw [h13]; rfl) (by decide) ?_
            refine r_aload_n C 0 0 dX10_ring_88 rfl rfl ?_
            refine r_getR (kf := 8) (d2 := (16, 0, 0)) C dX10_ring_89 rfl rfl f_X10 (by decide) t_2_103 rfl rfl ?_
            refine r_getI (kf := 2) C dX10_ring_92 rfl rfl f_X3 (by decide) t_2_11 rfl ?_
            exact r_ireturn C dX10_ring_95 (rt_e hF)
          have hF := if_f h13 hF
          by_cases h14 : a4 = (1 : Int32)
          · have hF := if_t h14 hF
            refine r_look (off := 33) C 96 dX10_ring_63 (by decide) ((lv_osw (a := 0) h13 rfl).trans (by rw [h14]; rfl)) (by decide) ?_
            refine r_aload_n C 0 0 dX10_ring_96 rfl rfl ?_
            refine r_getR (kf := 8) (d2 := (16, 0, 0)) C dX10_ring_97 rfl rfl f_X10 (by decide) t_2_103 rfl rfl ?_
            refine r_getI (kf := 3) C dX10_ring_100 rfl rfl f_X3 (by decide) t_2_13 rfl ?_
            exact r_ireturn C dX10_ring_103 (rt_e hF)
          have hF := if_f h14 hF
          refine r_look (off := 41) C 104 dX10_ring_63 (by decide) ((lv_osw (a := 0) h13 rfl).trans ((lv_osw (a := 1) h14 rfl).trans rfl)) (by decide) ?_
          refine r_aload_n C 0 0 dX10_ring_104 rfl rfl ?_
          refine r_getR (kf := 8) (d2 := (16, 0, 0)) C dX10_ring_105 rfl rfl f_X10 (by decide) t_2_103 rfl rfl ?_
          obtain ⟨r16, σ15, e17, hF⟩ := bd_e hF
          refine r_callV_i (as := []) (st := []) C dX10_ring_108 (s_X3_cellsRound G l e17) rfl rfl rfl t_4_92 t_4_93 t_4_94 t_1_9 t_4_95 m_X3_cellsRound ⟨Nat.le_of_ble_eq_true rfl, Nat.le_of_ble_eq_true rfl⟩ ⟨rfl, rfl⟩ ⟨Nat.zero_le _, Nat.zero_le _⟩ rfl (Nat.le_of_ble_eq_true rfl) ?_
          exact r_ireturn C dX10_ring_111 (rt_e hF)
        · have hF := if_f h18 hF
          refine r_bipush (v := (-4 : Int32)) C dX10_ring_58 rfl ?_
          exact r_ireturn C dX10_ring_60 (rt_e hF)
      · have hF := if_t h19 hF
        refine r_bipush (v := (-2 : Int32)) C dX10_ring_32 rfl ?_
        exact r_ireturn C dX10_ring_34 (rt_e hF)
    · have hF := if_t h20 hF
      refine r_iconst (v := (-1 : Int32)) C dX10_ring_19 rfl ?_
      exact r_ireturn C dX10_ring_20 (rt_e hF)
def L_X10_falls_141 (c6 : Int32) (c7 : Int32) : Nat → Int64 → Int32 → St → Option (Int64 × St)
  | 0, _, _, _ => none
  | n + 1, v8, v10, τ =>
  (if (60 : Int32) < v10 then some (v8, τ) else bd (F_X5_teethSend 0 v10 τ) fun r35 σ34 => nam (fun (y37 : Int64) (σ39 : St) => nam (v10 + (1 : Int32)) fun x40 => L_X10_falls_141 c6 c7 n y37 x40 σ39) fun k38 => (if r35 = 0 then (if c7 = 0 then k38 v8 σ34 else nam (v8 ||| ((1 : Int64) <<< (v10.toInt64 &&& 63))) fun x41 => k38 x41 σ34) else (if c6 = 0 then k38 v8 σ34 else nam (v8 ||| ((1 : Int64) <<< (v10.toInt64 &&& 63))) fun x43 => k38 x43 σ34)))
def F_X10_falls (a1 : Int32) (a2 : Int32) (a3 : Int32) (σ : St) : Option (Int64 × St) :=
  bd (F_X10_isCell a1 σ) fun r2 σ1 => (if r2 = 0 then some ((-1 : Int64), σ1) else bd (F_X10_isWay a2 σ1) fun r5 σ4 => (if r5 = 0 then some ((-1 : Int64), σ4) else bd (F_X10_isCell a3 σ4) fun r8 σ7 => (if r8 = 0 then some ((-1 : Int64), σ7) else bd (F_X6_isOpen 0 a1 σ7) fun r11 σ10 => (if r11 = 0 then some ((-2 : Int64), σ10) else bd (F_X6_kindAt 0 a3 σ10) fun r14 σ13 => (if r14 = (6 : Int32) then bd (F_X5_value 0 (2 : Int32) σ13) fun r17 σ16 => bd (F_X5_value 0 (3 : Int32) σ16) fun r20 σ19 => bd (F_X3_follow 0 0 a1 r17 a2 σ19) fun r23 σ22 => nam (fun (y25 : Int32) (σ27 : St) => bd (F_X3_follow 0 0 a1 (r20 + (1 : Int32)) a2 σ27) fun r29 σ28 => nam (fun (y31 : Int32) (σ33 : St) => L_X10_falls_141 y25 y31 FU (0 : Int64) (1 : Int32) σ33 ) fun k32 => (if r29 = a3 then k32 (1 : Int32) σ28 else k32 (0 : Int32) σ28)) fun k26 => (if r23 = a3 then k26 (1 : Int32) σ22 else k26 (0 : Int32) σ22) else some ((-2 : Int64), σ13))))))
set_option maxRecDepth 20000 in
set_option maxHeartbeats 4000000 in
theorem l_X10_falls_141 {G : Gx} {p : Program} {l : Launch} {e : Env} {s : State} {m : MethodId} {args : Array Value} {below : List Frame} {meth : Method} {c : Code} (C : Cx G p s m args meth c (some .long) 11 RX10 cX10_falls) (c6 : Int32) (c7 : Int32) {σ' : St} {r : Int64} : ∀ (n : Nat) (v8 : Int64) (v10 : Int32) (τ : St), L_X10_falls_141 c6 c7 n v8 v10 τ = some (r, σ') → Rt G p l e (lvl 3) s m args below meth c 0 0 (MQ below (va_Ql (fun a b => a = r ∧ b = σ') (Wd G) (AG G)) args s 0 0 (AG G)) 11 141 [(0, vR (0, 0, 0)), (6, vI c6), (7, vI c7), (8, vL v8), (10, vI v10)] [] τ := by
  intro n
  induction n with
  | zero => intro v8 v10 τ hF; cases hF
  | succ n ih =>
    intro v8 v10 τ hF
    unfold L_X10_falls_141 at hF
    refine r_iload C 4 dX10_falls_141 rfl ?_
    refine r_bipush (v := (60 : Int32)) C dX10_falls_143 rfl ?_
    refine r_icmp_gt C 188 dX10_falls_145 (by decide)  (fun h46 => ?_) (fun h46 => ?_)
    · have hF := if_t h46 hF
      refine r_lload C 3 dX10_falls_188 rfl ?_
      exact r_lreturn C dX10_falls_190 (rt_e hF)
    · have hF := if_f h46 hF
      refine r_aload_n C 0 0 dX10_falls_148 rfl rfl ?_
      refine r_getR (kf := 4) (d2 := (3, 0, 0)) C dX10_falls_149 rfl rfl f_X10 (by decide) t_2_99 rfl rfl ?_
      refine r_iload C 4 dX10_falls_152 rfl ?_
      obtain ⟨r35, σ34, e36, hF⟩ := bd_e hF
      refine r_callV_i (as := [vI v10]) (st := []) C dX10_falls_154 (s_X5_teethSend G l e36) rfl rfl rfl t_4_102 t_3_222 t_3_223 t_1_3 t_3_224 m_X5_teethSend ⟨Nat.le_of_ble_eq_true rfl, Nat.le_of_ble_eq_true rfl⟩ ⟨rfl, rfl⟩ ⟨Nat.zero_le _, Nat.zero_le _⟩ rfl (Nat.le_of_ble_eq_true rfl) ?_
      obtain ⟨k38, ek38, hF⟩ := nam_e hF
      have hk38 : ∀ (y37 : Int64) (σ39 : St), k38 y37 σ39 = some (r, σ') → Rt G p l e (lvl 3) s m args below meth c 0 0 (MQ below (va_Ql (fun a b => a = r ∧ b = σ') (Wd G) (AG G)) args s 0 0 (AG G)) 11 182 [(0, vR (0, 0, 0)), (6, vI c6), (7, vI c7), (8, vL y37), (10, vI v10)] [] σ39 := by
        intro y37 σ39 hF
        subst ek38
        obtain ⟨x40, ex40, hF⟩ := nam_e hF
        refine r_iinc (v := x40) (ls2 := [(10, vI x40), (0, vR (0, 0, 0)), (6, vI c6), (7, vI c7), (8, vL y37)]) C 4 dX10_falls_182 rfl ex40.symm (by decide) rfl ?_
        refine r_goto C 141 dX10_falls_185 (by decide) ?_
        refine r_drop (ls2 := [(0, vR (0, 0, 0)), (6, vI c6), (7, vI c7), (8, vL y37), (10, vI x40)]) [1, 2, 3, 4, 0] rfl ?_
        exact ih _ _ _ hF
      refine r_if_eq C 168 dX10_falls_157 (by decide)  (fun h45 => ?_) (fun h45 => ?_)
      · have hF := if_t h45 hF
        refine r_iload C 2 dX10_falls_168 rfl ?_
        refine r_if_eq C 182 dX10_falls_170 (by decide)  (fun h42 => ?_) (fun h42 => ?_)
        · have hF := if_t h42 hF
          exact hk38 _ _ hF
        · have hF := if_f h42 hF
          refine r_lload C 3 dX10_falls_173 rfl ?_
          refine r_lconst (v := (1 : Int64)) C dX10_falls_175 rfl ?_
          refine r_iload C 4 dX10_falls_176 rfl ?_
          refine r_lshl C dX10_falls_178 ?_
          refine r_lor C dX10_falls_179 ?_
          obtain ⟨x41, ex41, hF⟩ := nam_e hF
          refine r_topL ex41 ?_
          refine r_lstore (ls2 := [(8, vL x41), (0, vR (0, 0, 0)), (6, vI c6), (7, vI c7), (10, vI v10)]) C dX10_falls_180 (by decide) rfl ?_
          refine r_drop (ls2 := [(0, vR (0, 0, 0)), (6, vI c6), (7, vI c7), (8, vL x41), (10, vI v10)]) [1, 2, 3, 0, 4] rfl ?_
          exact hk38 _ _ hF
      · have hF := if_f h45 hF
        refine r_iload C 1 dX10_falls_160 rfl ?_
        refine r_if_eq C 182 dX10_falls_162 (by decide)  (fun h44 => ?_) (fun h44 => ?_)
        · have hF := if_t h44 hF
          exact hk38 _ _ hF
        · have hF := if_f h44 hF
          refine r_goto C 173 dX10_falls_165 (by decide) ?_
          refine r_lload C 3 dX10_falls_173 rfl ?_
          refine r_lconst (v := (1 : Int64)) C dX10_falls_175 rfl ?_
          refine r_iload C 4 dX10_falls_176 rfl ?_
          refine r_lshl C dX10_falls_178 ?_
          refine r_lor C dX10_falls_179 ?_
          obtain ⟨x43, ex43, hF⟩ := nam_e hF
          refine r_topL ex43 ?_
          refine r_lstore (ls2 := [(8, vL x43), (0, vR (0, 0, 0)), (6, vI c6), (7, vI c7), (10, vI v10)]) C dX10_falls_180 (by decide) rfl ?_
          refine r_drop (ls2 := [(0, vR (0, 0, 0)), (6, vI c6), (7, vI c7), (8, vL x43), (10, vI v10)]) [1, 2, 3, 0, 4] rfl ?_
          exact hk38 _ _ hF
set_option maxRecDepth 20000 in
set_option maxHeartbeats 4000000 in
theorem s_X10_falls (G : Gx) (l : Launch) {a1 : Int32} {a2 : Int32} {a3 : Int32} {σ σ' : St} {r : Int64} (hF : F_X10_falls a1 a2 a3 σ = some (r, σ')) : Sp G l yX10_falls cX10_falls 11 (some .long) (lvl 3) [vR (0, 0, 0), vI a1, vI a2, vI a3] σ (va_Ql (fun a b => a = r ∧ b = σ') (Wd G) (AG G)) := by
  refine Sp_of (own := RX10) (by decide) rfl (Nat.le_of_ble_eq_true rfl) ?_
  intro p e s m args below meth c C
  show Rt G p l e (lvl 3) s m args below meth c 0 0 (MQ below (va_Ql (fun a b => a = r ∧ b = σ') (Wd G) (AG G)) args s 0 0 (AG G)) 11 0 [(0, vR (0, 0, 0)), (1, vI a1), (2, vI a2), (3, vI a3)] [] σ
  unfold F_X10_falls at hF
  refine r_iload_n C 1 1 dX10_falls_0 rfl rfl ?_
  obtain ⟨r2, σ1, e3, hF⟩ := bd_e hF
  refine r_callS_i (as := [vI a1]) (st := []) C dX10_falls_1 (s_X10_isCell G l e3) t_3_120 t_3_121 t_1_1 t_3_122 m_X10_isCell ⟨Nat.le_of_ble_eq_true rfl, Nat.le_of_ble_eq_true rfl⟩ ⟨rfl, rfl⟩ ⟨Nat.zero_le _, Nat.zero_le _⟩ rfl (Nat.le_of_ble_eq_true rfl) ?_
  refine r_if_eq C 21 dX10_falls_4 (by decide)  (fun h53 => ?_) (fun h53 => ?_)
  · have hF := if_t h53 hF
    refine r_ldc2_w (v := (-1 : Int64)) C dX10_falls_21 t_4_100 ?_
    exact r_lreturn C dX10_falls_24 (rt_e hF)
  · have hF := if_f h53 hF
    refine r_iload_n C 2 2 dX10_falls_7 rfl rfl ?_
    obtain ⟨r5, σ4, e6, hF⟩ := bd_e hF
    refine r_callS_i (as := [vI a2]) (st := []) C dX10_falls_8 (s_X10_isWay G l e6) t_3_160 t_3_161 t_1_1 t_3_162 m_X10_isWay ⟨Nat.le_of_ble_eq_true rfl, Nat.le_of_ble_eq_true rfl⟩ ⟨rfl, rfl⟩ ⟨Nat.zero_le _, Nat.zero_le _⟩ rfl (Nat.le_of_ble_eq_true rfl) ?_
    refine r_if_eq C 21 dX10_falls_11 (by decide)  (fun h52 => ?_) (fun h52 => ?_)
    · have hF := if_t h52 hF
      refine r_ldc2_w (v := (-1 : Int64)) C dX10_falls_21 t_4_100 ?_
      exact r_lreturn C dX10_falls_24 (rt_e hF)
    · have hF := if_f h52 hF
      refine r_iload_n C 3 3 dX10_falls_14 rfl rfl ?_
      obtain ⟨r8, σ7, e9, hF⟩ := bd_e hF
      refine r_callS_i (as := [vI a3]) (st := []) C dX10_falls_15 (s_X10_isCell G l e9) t_3_120 t_3_121 t_1_1 t_3_122 m_X10_isCell ⟨Nat.le_of_ble_eq_true rfl, Nat.le_of_ble_eq_true rfl⟩ ⟨rfl, rfl⟩ ⟨Nat.zero_le _, Nat.zero_le _⟩ rfl (Nat.le_of_ble_eq_true rfl) ?_
      refine r_if_ne C 25 dX10_falls_18 (by decide)  (fun h51 => ?_) (fun h51 => ?_)
      · have hF := if_f h51 hF
        refine r_aload_n C 0 0 dX10_falls_25 rfl rfl ?_
        refine r_getR (kf := 5) (d2 := (7, 0, 0)) C dX10_falls_26 rfl rfl f_X10 (by decide) t_2_100 rfl rfl ?_
        refine r_iload_n C 1 1 dX10_falls_29 rfl rfl ?_
        obtain ⟨r11, σ10, e12, hF⟩ := bd_e hF
        refine r_callV_i (as := [vI a1]) (st := []) C dX10_falls_30 (s_X6_isOpen G l e12) rfl rfl rfl t_3_163 t_3_164 t_3_165 t_1_5 t_3_166 m_X6_isOpen ⟨Nat.le_of_ble_eq_true rfl, Nat.le_of_ble_eq_true rfl⟩ ⟨rfl, rfl⟩ ⟨Nat.zero_le _, Nat.zero_le _⟩ rfl (Nat.le_of_ble_eq_true rfl) ?_
        refine r_if_eq C 49 dX10_falls_33 (by decide)  (fun h50 => ?_) (fun h50 => ?_)
        · have hF := if_t h50 hF
          refine r_ldc2_w (v := (-2 : Int64)) C dX10_falls_49 t_4_101 ?_
          exact r_lreturn C dX10_falls_52 (rt_e hF)
        · have hF := if_f h50 hF
          refine r_aload_n C 0 0 dX10_falls_36 rfl rfl ?_
          refine r_getR (kf := 5) (d2 := (7, 0, 0)) C dX10_falls_37 rfl rfl f_X10 (by decide) t_2_100 rfl rfl ?_
          refine r_iload_n C 3 3 dX10_falls_40 rfl rfl ?_
          obtain ⟨r14, σ13, e15, hF⟩ := bd_e hF
          refine r_callV_i (as := [vI a3]) (st := []) C dX10_falls_41 (s_X6_kindAt G l e15) rfl rfl rfl t_3_123 t_3_124 t_3_125 t_1_5 t_3_126 m_X6_kindAt ⟨Nat.le_of_ble_eq_true rfl, Nat.le_of_ble_eq_true rfl⟩ ⟨rfl, rfl⟩ ⟨Nat.zero_le _, Nat.zero_le _⟩ rfl (Nat.le_of_ble_eq_true rfl) ?_
          refine r_bipush (v := (6 : Int32)) C dX10_falls_44 rfl ?_
          refine r_icmp_eq C 53 dX10_falls_46 (by decide)  (fun h49 => ?_) (fun h49 => ?_)
          · have hF := if_t h49 hF
            refine r_aload_n C 0 0 dX10_falls_53 rfl rfl ?_
            refine r_getR (kf := 4) (d2 := (3, 0, 0)) C dX10_falls_54 rfl rfl f_X10 (by decide) t_2_99 rfl rfl ?_
            refine r_iconst (v := (2 : Int32)) C dX10_falls_57 rfl ?_
            obtain ⟨r17, σ16, e18, hF⟩ := bd_e hF
            refine r_callV_i (as := [vI (2 : Int32)]) (st := []) C dX10_falls_58 (s_X5_value G l e18) rfl rfl rfl t_3_115 t_3_90 t_3_91 t_1_3 t_3_92 m_X5_value ⟨Nat.le_of_ble_eq_true rfl, Nat.le_of_ble_eq_true rfl⟩ ⟨rfl, rfl⟩ ⟨Nat.zero_le _, Nat.zero_le _⟩ rfl (Nat.le_of_ble_eq_true rfl) ?_
            refine r_istore (ls2 := [(4, vI r17), (0, vR (0, 0, 0)), (1, vI a1), (2, vI a2), (3, vI a3)]) C dX10_falls_61 (by decide) rfl ?_
            refine r_aload_n C 1 0 dX10_falls_63 rfl rfl ?_
            refine r_getR (kf := 4) (d2 := (3, 0, 0)) C dX10_falls_64 rfl rfl f_X10 (by decide) t_2_99 rfl rfl ?_
            refine r_iconst (v := (3 : Int32)) C dX10_falls_67 rfl ?_
            obtain ⟨r20, σ19, e21, hF⟩ := bd_e hF
            refine r_callV_i (as := [vI (3 : Int32)]) (st := []) C dX10_falls_68 (s_X5_value G l e21) rfl rfl rfl t_3_115 t_3_90 t_3_91 t_1_3 t_3_92 m_X5_value ⟨Nat.le_of_ble_eq_true rfl, Nat.le_of_ble_eq_true rfl⟩ ⟨rfl, rfl⟩ ⟨Nat.zero_le _, Nat.zero_le _⟩ rfl (Nat.le_of_ble_eq_true rfl) ?_
            refine r_istore (ls2 := [(5, vI r20), (4, vI r17), (0, vR (0, 0, 0)), (1, vI a1), (2, vI a2), (3, vI a3)]) C dX10_falls_71 (by decide) rfl ?_
            refine r_aload_n C 2 0 dX10_falls_73 rfl rfl ?_
            refine r_getR (kf := 8) (d2 := (16, 0, 0)) C dX10_falls_74 rfl rfl f_X10 (by decide) t_2_103 rfl rfl ?_
            refine r_aload_n C 2 0 dX10_falls_77 rfl rfl ?_
            refine r_getR (kf := 5) (d2 := (7, 0, 0)) C dX10_falls_78 rfl rfl f_X10 (by decide) t_2_100 rfl rfl ?_
            refine r_aload_n C 2 0 dX10_falls_81 rfl rfl ?_
            refine r_getR (kf := 4) (d2 := (3, 0, 0)) C dX10_falls_82 rfl rfl f_X10 (by decide) t_2_99 rfl rfl ?_
            refine r_iload_n C 3 1 dX10_falls_85 rfl rfl ?_
            refine r_iload C 1 dX10_falls_86 rfl ?_
            refine r_iload_n C 4 2 dX10_falls_88 rfl rfl ?_
            obtain ⟨r23, σ22, e24, hF⟩ := bd_e hF
            refine r_callV_i (as := [vR (7, 0, 0), vR (3, 0, 0), vI a1, vI r17, vI a2]) (st := []) C dX10_falls_89 (s_X3_follow G l e24) rfl rfl rfl t_4_82 t_4_83 t_4_84 t_1_9 t_4_85 m_X3_follow ⟨Nat.le_of_ble_eq_true rfl, Nat.le_of_ble_eq_true rfl⟩ ⟨rfl, rfl⟩ ⟨Nat.zero_le _, Nat.zero_le _⟩ rfl (Nat.le_of_ble_eq_true rfl) ?_
            refine r_iload_n C 5 3 dX10_falls_92 rfl rfl ?_
            obtain ⟨k26, ek26, hF⟩ := nam_e hF
            have hk26 : ∀ (y25 : Int32) (σ27 : St), k26 y25 σ27 = some (r, σ') → Rt G p l e (lvl 3) s m args below meth c 0 0 (MQ below (va_Ql (fun a b => a = r ∧ b = σ') (Wd G) (AG G)) args s 0 0 (AG G)) 11 101 [(0, vR (0, 0, 0)), (1, vI a1), (2, vI a2), (3, vI a3), (5, vI r20)] [vI y25] σ27 := by
              intro y25 σ27 hF
              subst ek26
              refine r_istore (ls2 := [(6, vI y25), (0, vR (0, 0, 0)), (1, vI a1), (2, vI a2), (3, vI a3), (5, vI r20)]) C dX10_falls_101 (by decide) rfl ?_
              refine r_aload_n C 1 0 dX10_falls_103 rfl rfl ?_
              refine r_getR (kf := 8) (d2 := (16, 0, 0)) C dX10_falls_104 rfl rfl f_X10 (by decide) t_2_103 rfl rfl ?_
              refine r_aload_n C 1 0 dX10_falls_107 rfl rfl ?_
              refine r_getR (kf := 5) (d2 := (7, 0, 0)) C dX10_falls_108 rfl rfl f_X10 (by decide) t_2_100 rfl rfl ?_
              refine r_aload_n C 1 0 dX10_falls_111 rfl rfl ?_
              refine r_getR (kf := 4) (d2 := (3, 0, 0)) C dX10_falls_112 rfl rfl f_X10 (by decide) t_2_99 rfl rfl ?_
              refine r_iload_n C 2 1 dX10_falls_115 rfl rfl ?_
              refine r_iload C 5 dX10_falls_116 rfl ?_
              refine r_iconst (v := (1 : Int32)) C dX10_falls_118 rfl ?_
              refine r_iadd C dX10_falls_119 ?_
              refine r_iload_n C 3 2 dX10_falls_120 rfl rfl ?_
              obtain ⟨r29, σ28, e30, hF⟩ := bd_e hF
              refine r_callV_i (as := [vR (7, 0, 0), vR (3, 0, 0), vI a1, vI (r20 + (1 : Int32)), vI a2]) (st := []) C dX10_falls_121 (s_X3_follow G l e30) rfl rfl rfl t_4_82 t_4_83 t_4_84 t_1_9 t_4_85 m_X3_follow ⟨Nat.le_of_ble_eq_true rfl, Nat.le_of_ble_eq_true rfl⟩ ⟨rfl, rfl⟩ ⟨Nat.zero_le _, Nat.zero_le _⟩ rfl (Nat.le_of_ble_eq_true rfl) ?_
              refine r_iload_n C 4 3 dX10_falls_124 rfl rfl ?_
              obtain ⟨k32, ek32, hF⟩ := nam_e hF
              have hk32 : ∀ (y31 : Int32) (σ33 : St), k32 y31 σ33 = some (r, σ') → Rt G p l e (lvl 3) s m args below meth c 0 0 (MQ below (va_Ql (fun a b => a = r ∧ b = σ') (Wd G) (AG G)) args s 0 0 (AG G)) 11 133 [(0, vR (0, 0, 0)), (6, vI y25)] [vI y31] σ33 := by
                intro y31 σ33 hF
                subst ek32
                refine r_istore (ls2 := [(7, vI y31), (0, vR (0, 0, 0)), (6, vI y25)]) C dX10_falls_133 (by decide) rfl ?_
                refine r_lconst (v := (0 : Int64)) C dX10_falls_135 rfl ?_
                refine r_lstore (ls2 := [(8, vL (0 : Int64)), (7, vI y31), (0, vR (0, 0, 0)), (6, vI y25)]) C dX10_falls_136 (by decide) rfl ?_
                refine r_iconst (v := (1 : Int32)) C dX10_falls_138 rfl ?_
                refine r_istore (ls2 := [(10, vI (1 : Int32)), (8, vL (0 : Int64)), (7, vI y31), (0, vR (0, 0, 0)), (6, vI y25)]) C dX10_falls_139 (by decide) rfl ?_
                refine r_drop (ls2 := [(0, vR (0, 0, 0)), (6, vI y25), (7, vI y31), (8, vL (0 : Int64)), (10, vI (1 : Int32))]) [3, 4, 2, 1, 0] rfl ?_
                refine l_X10_falls_141 C y25 y31  _ _ _ _ hF
              refine r_icmp_ne C 132 dX10_falls_125 (by decide)  (fun h47 => ?_) (fun h47 => ?_)
              · have hF := if_f h47 hF
                refine r_iconst (v := (0 : Int32)) C dX10_falls_132 rfl ?_
                refine r_drop (ls2 := [(0, vR (0, 0, 0)), (6, vI y25)]) [1, 0] rfl ?_
                exact hk32 _ _ hF
              · have hF := if_t h47 hF
                refine r_iconst (v := (1 : Int32)) C dX10_falls_128 rfl ?_
                refine r_goto C 133 dX10_falls_129 (by decide) ?_
                refine r_drop (ls2 := [(0, vR (0, 0, 0)), (6, vI y25)]) [1, 0] rfl ?_
                exact hk32 _ _ hF
            refine r_icmp_ne C 100 dX10_falls_93 (by decide)  (fun h48 => ?_) (fun h48 => ?_)
            · have hF := if_f h48 hF
              refine r_iconst (v := (0 : Int32)) C dX10_falls_100 rfl ?_
              refine r_drop (ls2 := [(0, vR (0, 0, 0)), (1, vI a1), (2, vI a2), (3, vI a3), (5, vI r20)]) [2, 3, 4, 5, 0] rfl ?_
              exact hk26 _ _ hF
            · have hF := if_t h48 hF
              refine r_iconst (v := (1 : Int32)) C dX10_falls_96 rfl ?_
              refine r_goto C 101 dX10_falls_97 (by decide) ?_
              refine r_drop (ls2 := [(0, vR (0, 0, 0)), (1, vI a1), (2, vI a2), (3, vI a3), (5, vI r20)]) [2, 3, 4, 5, 0] rfl ?_
              exact hk26 _ _ hF
          · have hF := if_f h49 hF
            refine r_ldc2_w (v := (-2 : Int64)) C dX10_falls_49 t_4_101 ?_
            exact r_lreturn C dX10_falls_52 (rt_e hF)
      · have hF := if_t h51 hF
        refine r_ldc2_w (v := (-1 : Int64)) C dX10_falls_21 t_4_100 ?_
        exact r_lreturn C dX10_falls_24 (rt_e hF)
def L_J7_fill_53178_t14_5 (c1 : Int32) (c3 : Int32) : Nat → Int32 → St → Option (Unit × St)
  | 0, _, _ => none
  | n + 1, v2, τ =>
  (if c3 ≤ v2 then some ((), τ) else ck (inb v2 96) (nam (uI τ (14, 0, 0) (v2.toNatClampNeg) c1) fun σ2 => nam (v2 + (1 : Int32)) fun x3 => L_J7_fill_53178_t14_5 c1 c3 n x3 σ2))
def F_J7_fill_53178_t14 (a1 : Int32) (σ : St) : Option (Unit × St) :=
  L_J7_fill_53178_t14_5 a1 (96 : Int32) FU (0 : Int32) σ 
set_option maxRecDepth 20000 in
set_option maxHeartbeats 4000000 in
theorem l_J7_fill_53178_t14_5 {G : Gx} {p : Program} {l : Launch} {e : Env} {s : State} {m : MethodId} {args : Array Value} {below : List Frame} {meth : Method} {c : Code} (C : Cx G p s m args meth c none 4 RJ7 cJ7_fill_53178) (c1 : Int32) (c3 : Int32) {σ' : St}  : ∀ (n : Nat) (v2 : Int32) (τ : St), L_J7_fill_53178_t14_5 c1 c3 n v2 τ = some ((), σ') → Rt G p l e (lvl 0) s m args below meth c 0 0 (MQ below (va_Qv (fun b => b = σ') (Wd G) (AG G)) args s 0 0 (AG G)) 4 5 [(0, vR (14, 0, 0)), (1, vI c1), (2, vI v2), (3, vI c3)] [] τ := by
  intro n
  induction n with
  | zero => intro v2 τ hF; cases hF
  | succ n ih =>
    intro v2 τ hF
    unfold L_J7_fill_53178_t14_5 at hF
    refine r_iload_n C 2 2 dJ7_fill_53178_5 rfl rfl ?_
    refine r_iload_n C 3 3 dJ7_fill_53178_6 rfl rfl ?_
    refine r_icmp_ge C 20 dJ7_fill_53178_7 (by decide)  (fun h4 => ?_) (fun h4 => ?_)
    · have hF := if_t h4 hF
      exact r_return C dJ7_fill_53178_20 (rv_e hF)
    · have hF := if_f h4 hF
      refine r_aload_n C 0 0 dJ7_fill_53178_10 rfl rfl ?_
      refine r_iload_n C 2 2 dJ7_fill_53178_11 rfl rfl ?_
      refine r_iload_n C 1 1 dJ7_fill_53178_12 rfl rfl ?_
      obtain ⟨h1, hF⟩ := ck_e hF
      obtain ⟨σ2, eσ2, hF⟩ := nam_e hF
      refine r_iastore C (v2.toNatClampNeg) dJ7_fill_53178_13 rfl h1 rfl eσ2 ?_
      obtain ⟨x3, ex3, hF⟩ := nam_e hF
      refine r_iinc (v := x3) (ls2 := [(2, vI x3), (0, vR (14, 0, 0)), (1, vI c1), (3, vI c3)]) C 2 dJ7_fill_53178_14 rfl ex3.symm (by decide) rfl ?_
      refine r_goto C 5 dJ7_fill_53178_17 (by decide) ?_
      refine r_drop (ls2 := [(0, vR (14, 0, 0)), (1, vI c1), (2, vI x3), (3, vI c3)]) [1, 2, 0, 3] rfl ?_
      exact ih _ _ hF
set_option maxRecDepth 20000 in
set_option maxHeartbeats 4000000 in
theorem s_J7_fill_53178_t14 (G : Gx) (l : Launch) {a1 : Int32} {σ σ' : St}  (hF : F_J7_fill_53178_t14 a1 σ = some ((), σ')) : Sp G l yJ7_fill_53178 cJ7_fill_53178 4 none (lvl 0) [vR (14, 0, 0), vI a1] σ (va_Qv (fun b => b = σ') (Wd G) (AG G)) := by
  refine Sp_of (own := RJ7) (by decide) rfl (Nat.le_of_ble_eq_true rfl) ?_
  intro p e s m args below meth c C
  show Rt G p l e (lvl 0) s m args below meth c 0 0 (MQ below (va_Qv (fun b => b = σ') (Wd G) (AG G)) args s 0 0 (AG G)) 4 0 [(0, vR (14, 0, 0)), (1, vI a1)] [] σ
  unfold F_J7_fill_53178_t14 at hF
  refine r_iconst (v := (0 : Int32)) C dJ7_fill_53178_0 rfl ?_
  refine r_istore_n (ls2 := [(2, vI (0 : Int32)), (0, vR (14, 0, 0)), (1, vI a1)]) C dJ7_fill_53178_1 2 rfl (by decide) rfl ?_
  refine r_aload_n C 1 0 dJ7_fill_53178_2 rfl rfl ?_
  refine r_alen (v := (96 : Int32)) C dJ7_fill_53178_3 rfl (by decide) rfl rfl ?_
  refine r_istore_n (ls2 := [(3, vI (96 : Int32)), (2, vI (0 : Int32)), (0, vR (14, 0, 0)), (1, vI a1)]) C dJ7_fill_53178_4 3 rfl (by decide) rfl ?_
  refine r_drop (ls2 := [(0, vR (14, 0, 0)), (1, vI a1), (2, vI (0 : Int32)), (3, vI (96 : Int32))]) [2, 3, 1, 0] rfl ?_
  refine l_J7_fill_53178_t14_5 C a1 (96 : Int32)  _ _ _ hF
def L_X2_findMend_110 (q1 : Nat) (c2 : Int32) (c4 : Int32) (c5 : Int32) (c6 : Int32) : Nat → Int32 → St → (St → Option (Int32 × St)) → Option (Int32 × St)
  | 0, _, _, _ => none
  | n + 1, v7, τ, kx205 =>
  (if c6 = 0 then kx205  τ else (if (4 : Int32) < v7 then kx205  τ else ck (inb c4 96) (nam (uI τ (8, 3, 0) (c4.toNatClampNeg) v7) fun σ21 => bd (F_X6_clearDrops 3 σ21) fun _ σ22 => bd (F_X6_addDrop 3 (σ22.1 (13, 0, 0) 3) (σ22.1 (13, 0, 0) 4) (σ22.1 (13, 0, 0) 5) σ22) fun r25 σ24 => bd (F_X2_ticksTill q1 c2 ((σ24.1 (13, 0, 0) 6) - (1 : Int32)) σ24) fun r28 σ27 => nam (fun  (σ31 : St) => nam (v7 + (1 : Int32)) fun x32 => L_X2_findMend_110 q1 c2 c4 c5 c6 n x32 σ31 kx205) fun k30 => (if r28 = (-4 : Int32) then k30  σ27 else nam (uI σ27 (13, 0, 0) 6 r28) fun σ33 => nam (uI σ33 (13, 0, 0) 7 c4) fun σ34 => nam (uI σ34 (13, 0, 0) 8 v7) fun σ35 => k30  σ35))))
def L_X2_findMend_65 (q1 : Nat) (c2 : Int32) : Nat → Int32 → St → (St → Option (Int32 × St)) → Option (Int32 × St)
  | 0, _, _, _ => none
  | n + 1, v4, τ, kx223 =>
  (if (96 : Int32) ≤ v4 then kx223  τ else ck (inb v4 96) (nam (τ.1 (8, 3, 0) (v4.toNatClampNeg)) fun x15 => ck (inb v4 96) (nam (fun (y17 : Int32) (σ19 : St) => L_X2_findMend_110 q1 c2 v4 x15 y17 FU (0 : Int32) σ19 (fun  (σ39 : St) => ck (inb v4 96) (nam (uI σ39 (8, 3, 0) (v4.toNatClampNeg) x15) fun σ41 => nam (v4 + (1 : Int32)) fun x42 => L_X2_findMend_65 q1 c2 n x42 σ41 kx223))) fun k18 => (if (τ.1 (15, 0, 0) (v4.toNatClampNeg)) = 0 then k18 (0 : Int32) τ else (if (4 : Int32) < x15 then k18 (0 : Int32) τ else k18 (1 : Int32) τ)))))
def F_X2_findMend (q1 : Nat) (a2 : Int32) (σ : St) : Option (Int32 × St) :=
  bd (F_J7_fill_53178_t14 (0 : Int32) σ) fun _ σ1 => bd (F_X2_ticksTill q1 a2 (400 : Int32) σ1) fun r4 σ3 => ck (cpk (0 : Int32) (0 : Int32) (96 : Int32) 96 96) (nam (uR σ3 (15, 0, 0) (va_cpy (σ3.1 (14, 0, 0)) (σ3.1 (15, 0, 0)) (0 : Int32).toNatClampNeg (0 : Int32).toNatClampNeg (96 : Int32).toNatClampNeg)) fun σ7 => nam (fun (y8 : Int32) (σ10 : St) => nam (uI σ10 (13, 0, 0) 6 y8) fun σ11 => nam (uI σ11 (13, 0, 0) 7 (-4 : Int32)) fun σ12 => nam (uI σ12 (13, 0, 0) 8 (-4 : Int32)) fun σ13 => L_X2_findMend_65 q1 a2 FU (0 : Int32) σ13 (fun  (σ46 : St) => (if (σ46.1 (13, 0, 0) 7) = (-4 : Int32) then some ((0 : Int32), σ46) else some ((1 : Int32), σ46)))) fun k9 => (if r4 = (-4 : Int32) then k9 (401 : Int32) σ7 else k9 r4 σ7))
set_option maxRecDepth 20000 in
set_option maxHeartbeats 4000000 in
theorem l_X2_findMend_110 {G : Gx} {p : Program} {l : Launch} {e : Env} {s : State} {m : MethodId} {args : Array Value} {below : List Frame} {meth : Method} {c : Code} (C : Cx G p s m args meth c (some .boolean) 9 RX2 cX2_findMend) (q1 : Nat) (c2 : Int32) (c4 : Int32) (c5 : Int32) (c6 : Int32) {σ' : St} {r : Int32} (kx205 : St → Option (Int32 × St)) (hkx205 : ∀  (τ : St), kx205  τ = some (r, σ') → Rt G p l e (lvl 5) s m args below meth c 0 0 (MQ below (va_Qi (fun a b => a = r ∧ b = σ') (Wd G) (AG G)) args s 0 0 (AG G)) 9 205 [(0, vR (13, 0, 0)), (1, vR (3, q1, 0)), (2, vI c2), (4, vI c4), (5, vI c5)] [] τ) : ∀ (n : Nat) (v7 : Int32) (τ : St), L_X2_findMend_110 q1 c2 c4 c5 c6 n v7 τ kx205 = some (r, σ') → Rt G p l e (lvl 5) s m args below meth c 0 0 (MQ below (va_Qi (fun a b => a = r ∧ b = σ') (Wd G) (AG G)) args s 0 0 (AG G)) 9 110 [(0, vR (13, 0, 0)), (1, vR (3, q1, 0)), (2, vI c2), (4, vI c4), (5, vI c5), (6, vI c6), (7, vI v7)] [] τ := by
  intro n
  induction n with
  | zero => intro v7 τ hF; cases hF
  | succ n ih =>
    intro v7 τ hF
    unfold L_X2_findMend_110 at hF
    refine r_iload C 5 dX2_findMend_110 rfl ?_
    refine r_if_eq C 205 dX2_findMend_112 (by decide)  (fun h38 => ?_) (fun h38 => ?_)
    · have hF := if_t h38 hF
      refine r_drop (ls2 := [(0, vR (13, 0, 0)), (1, vR (3, q1, 0)), (2, vI c2), (4, vI c4), (5, vI c5)]) [0, 1, 2, 3, 4] rfl ?_
      exact hkx205 _ hF
    · have hF := if_f h38 hF
      refine r_iload C 6 dX2_findMend_115 rfl ?_
      refine r_iconst (v := (4 : Int32)) C dX2_findMend_117 rfl ?_
      refine r_icmp_gt C 205 dX2_findMend_118 (by decide)  (fun h37 => ?_) (fun h37 => ?_)
      · have hF := if_t h37 hF
        refine r_drop (ls2 := [(0, vR (13, 0, 0)), (1, vR (3, q1, 0)), (2, vI c2), (4, vI c4), (5, vI c5)]) [0, 1, 2, 3, 4] rfl ?_
        exact hkx205 _ hF
      · have hF := if_f h37 hF
        refine r_aload_n C 0 0 dX2_findMend_121 rfl rfl ?_
        refine r_getR (kf := 0) (d2 := (7, 3, 0)) C dX2_findMend_122 rfl rfl f_X2 (by decide) t_1_209 rfl rfl ?_
        refine r_getR (kf := 0) (d2 := (8, 3, 0)) C dX2_findMend_125 rfl rfl f_X6 (by decide) t_1_153 rfl rfl ?_
        refine r_iload C 3 dX2_findMend_128 rfl ?_
        refine r_iload C 6 dX2_findMend_130 rfl ?_
        obtain ⟨h20, hF⟩ := ck_e hF
        obtain ⟨σ21, eσ21, hF⟩ := nam_e hF
        refine r_iastore C (c4.toNatClampNeg) dX2_findMend_132 rfl h20 rfl eσ21 ?_
        refine r_aload_n C 0 0 dX2_findMend_133 rfl rfl ?_
        refine r_getR (kf := 0) (d2 := (7, 3, 0)) C dX2_findMend_134 rfl rfl f_X2 (by decide) t_1_209 rfl rfl ?_
        obtain ⟨⟨⟩, σ22, e23, hF⟩ := bd_e hF
        refine r_callV_v (as := []) (st := []) C dX2_findMend_137 (s_X6_clearDrops G l e23) rfl rfl rfl t_4_114 t_3_104 t_3_105 t_1_5 t_3_106 m_X6_clearDrops ⟨Nat.le_of_ble_eq_true rfl, Nat.le_of_ble_eq_true rfl⟩ ⟨rfl, rfl⟩ ⟨Nat.zero_le _, Nat.zero_le _⟩ rfl (Nat.le_of_ble_eq_true rfl) ?_
        refine r_aload_n C 0 0 dX2_findMend_140 rfl rfl ?_
        refine r_getR (kf := 0) (d2 := (7, 3, 0)) C dX2_findMend_141 rfl rfl f_X2 (by decide) t_1_209 rfl rfl ?_
        refine r_aload_n C 0 0 dX2_findMend_144 rfl rfl ?_
        refine r_getI (kf := 3) C dX2_findMend_145 rfl rfl f_X2 (by decide) t_1_212 rfl ?_
        refine r_aload_n C 0 0 dX2_findMend_148 rfl rfl ?_
        refine r_getI (kf := 4) C dX2_findMend_149 rfl rfl f_X2 (by decide) t_1_213 rfl ?_
        refine r_aload_n C 0 0 dX2_findMend_152 rfl rfl ?_
        refine r_getI (kf := 5) C dX2_findMend_153 rfl rfl f_X2 (by decide) t_1_214 rfl ?_
        obtain ⟨r25, σ24, e26, hF⟩ := bd_e hF
        refine r_callV_i (as := [vI (σ22.1 (13, 0, 0) 3), vI (σ22.1 (13, 0, 0) 4), vI (σ22.1 (13, 0, 0) 5)]) (st := []) C dX2_findMend_156 (s_X6_addDrop G l e26) rfl rfl rfl t_4_115 t_3_169 t_3_170 t_1_5 t_3_171 m_X6_addDrop ⟨Nat.le_of_ble_eq_true rfl, Nat.le_of_ble_eq_true rfl⟩ ⟨rfl, rfl⟩ ⟨Nat.zero_le _, Nat.zero_le _⟩ rfl (Nat.le_of_ble_eq_true rfl) ?_
        refine r_pop_i C dX2_findMend_159 ?_
        refine r_aload_n C 0 0 dX2_findMend_160 rfl rfl ?_
        refine r_aload_n C 1 1 dX2_findMend_161 rfl rfl ?_
        refine r_iload_n C 2 2 dX2_findMend_162 rfl rfl ?_
        refine r_aload_n C 0 0 dX2_findMend_163 rfl rfl ?_
        refine r_getI (kf := 6) C dX2_findMend_164 rfl rfl f_X2 (by decide) t_1_215 rfl ?_
        refine r_iconst (v := (1 : Int32)) C dX2_findMend_167 rfl ?_
        refine r_isub C dX2_findMend_168 ?_
        obtain ⟨r28, σ27, e29, hF⟩ := bd_e hF
        refine r_callV_i (as := [vR (3, q1, 0), vI c2, vI ((σ24.1 (13, 0, 0) 6) - (1 : Int32))]) (st := []) C dX2_findMend_169 (s_X2_ticksTill G l e29) rfl rfl rfl t_4_112 t_4_74 t_4_75 t_1_8 t_4_76 m_X2_ticksTill ⟨Nat.le_of_ble_eq_true rfl, Nat.le_of_ble_eq_true rfl⟩ ⟨rfl, rfl⟩ ⟨Nat.zero_le _, Nat.zero_le _⟩ rfl (Nat.le_of_ble_eq_true rfl) ?_
        refine r_istore (ls2 := [(8, vI r28), (0, vR (13, 0, 0)), (1, vR (3, q1, 0)), (2, vI c2), (4, vI c4), (5, vI c5), (6, vI c6), (7, vI v7)]) C dX2_findMend_172 (by decide) rfl ?_
        refine r_iload C 0 dX2_findMend_174 rfl ?_
        refine r_bipush (v := (-4 : Int32)) C dX2_findMend_176 rfl ?_
        obtain ⟨k30, ek30, hF⟩ := nam_e hF
        have hk30 : ∀  (σ31 : St), k30  σ31 = some (r, σ') → Rt G p l e (lvl 5) s m args below meth c 0 0 (MQ below (va_Qi (fun a b => a = r ∧ b = σ') (Wd G) (AG G)) args s 0 0 (AG G)) 9 199 [(0, vR (13, 0, 0)), (1, vR (3, q1, 0)), (2, vI c2), (4, vI c4), (5, vI c5), (6, vI c6), (7, vI v7)] [] σ31 := by
          intro  σ31 hF
          subst ek30
          obtain ⟨x32, ex32, hF⟩ := nam_e hF
          refine r_iinc (v := x32) (ls2 := [(7, vI x32), (0, vR (13, 0, 0)), (1, vR (3, q1, 0)), (2, vI c2), (4, vI c4), (5, vI c5), (6, vI c6)]) C 6 dX2_findMend_199 rfl ex32.symm (by decide) rfl ?_
          refine r_goto C 110 dX2_findMend_202 (by decide) ?_
          refine r_drop (ls2 := [(0, vR (13, 0, 0)), (1, vR (3, q1, 0)), (2, vI c2), (4, vI c4), (5, vI c5), (6, vI c6), (7, vI x32)]) [1, 2, 3, 4, 5, 6, 0] rfl ?_
          exact ih _ _ hF
        refine r_icmp_eq C 199 dX2_findMend_178 (by decide)  (fun h36 => ?_) (fun h36 => ?_)
        · have hF := if_t h36 hF
          refine r_drop (ls2 := [(0, vR (13, 0, 0)), (1, vR (3, q1, 0)), (2, vI c2), (4, vI c4), (5, vI c5), (6, vI c6), (7, vI v7)]) [1, 2, 3, 4, 5, 6, 7] rfl ?_
          exact hk30 _ hF
        · have hF := if_f h36 hF
          refine r_aload_n C 1 0 dX2_findMend_181 rfl rfl ?_
          refine r_iload C 0 dX2_findMend_182 rfl ?_
          obtain ⟨σ33, eσ33, hF⟩ := nam_e hF
          refine r_put (kf := 6) (ty0 := tyX2) C dX2_findMend_184 rfl rfl f_X2 tyX2_ok nmX2 (by decide) t_1_215 rfl rfl rfl rfl eσ33 ?_
          refine r_aload_n C 1 0 dX2_findMend_187 rfl rfl ?_
          refine r_iload C 4 dX2_findMend_188 rfl ?_
          obtain ⟨σ34, eσ34, hF⟩ := nam_e hF
          refine r_put (kf := 7) (ty0 := tyX2) C dX2_findMend_190 rfl rfl f_X2 tyX2_ok nmX2 (by decide) t_1_217 rfl rfl rfl rfl eσ34 ?_
          refine r_aload_n C 1 0 dX2_findMend_193 rfl rfl ?_
          refine r_iload C 7 dX2_findMend_194 rfl ?_
          obtain ⟨σ35, eσ35, hF⟩ := nam_e hF
          refine r_put (kf := 8) (ty0 := tyX2) C dX2_findMend_196 rfl rfl f_X2 tyX2_ok nmX2 (by decide) t_1_219 rfl rfl rfl rfl eσ35 ?_
          refine r_drop (ls2 := [(0, vR (13, 0, 0)), (1, vR (3, q1, 0)), (2, vI c2), (4, vI c4), (5, vI c5), (6, vI c6), (7, vI v7)]) [1, 2, 3, 4, 5, 6, 7] rfl ?_
          exact hk30 _ hF
set_option maxRecDepth 20000 in
set_option maxHeartbeats 4000000 in
theorem l_X2_findMend_65 {G : Gx} {p : Program} {l : Launch} {e : Env} {s : State} {m : MethodId} {args : Array Value} {below : List Frame} {meth : Method} {c : Code} (C : Cx G p s m args meth c (some .boolean) 9 RX2 cX2_findMend) (q1 : Nat) (c2 : Int32) {σ' : St} {r : Int32} (kx223 : St → Option (Int32 × St)) (hkx223 : ∀  (τ : St), kx223  τ = some (r, σ') → Rt G p l e (lvl 5) s m args below meth c 0 0 (MQ below (va_Qi (fun a b => a = r ∧ b = σ') (Wd G) (AG G)) args s 0 0 (AG G)) 9 223 [(0, vR (13, 0, 0))] [] τ) : ∀ (n : Nat) (v4 : Int32) (τ : St), L_X2_findMend_65 q1 c2 n v4 τ kx223 = some (r, σ') → Rt G p l e (lvl 5) s m args below meth c 0 0 (MQ below (va_Qi (fun a b => a = r ∧ b = σ') (Wd G) (AG G)) args s 0 0 (AG G)) 9 65 [(0, vR (13, 0, 0)), (1, vR (3, q1, 0)), (2, vI c2), (4, vI v4)] [] τ := by
  intro n
  induction n with
  | zero => intro v4 τ hF; cases hF
  | succ n ih =>
    intro v4 τ hF
    unfold L_X2_findMend_65 at hF
    refine r_iload C 3 dX2_findMend_65 rfl ?_
    refine r_bipush (v := (96 : Int32)) C dX2_findMend_67 rfl ?_
    refine r_icmp_ge C 223 dX2_findMend_69 (by decide)  (fun h45 => ?_) (fun h45 => ?_)
    · have hF := if_t h45 hF
      refine r_drop (ls2 := [(0, vR (13, 0, 0))]) [0] rfl ?_
      exact hkx223 _ hF
    · have hF := if_f h45 hF
      refine r_aload_n C 0 0 dX2_findMend_72 rfl rfl ?_
      refine r_getR (kf := 0) (d2 := (7, 3, 0)) C dX2_findMend_73 rfl rfl f_X2 (by decide) t_1_209 rfl rfl ?_
      refine r_getR (kf := 0) (d2 := (8, 3, 0)) C dX2_findMend_76 rfl rfl f_X6 (by decide) t_1_153 rfl rfl ?_
      refine r_iload C 3 dX2_findMend_79 rfl ?_
      obtain ⟨h14, hF⟩ := ck_e hF
      refine r_iaload C (v4.toNatClampNeg) dX2_findMend_81 rfl h14 rfl ?_
      obtain ⟨x15, ex15, hF⟩ := nam_e hF
      refine r_topI ex15 ?_
      refine r_istore (ls2 := [(5, vI x15), (0, vR (13, 0, 0)), (1, vR (3, q1, 0)), (2, vI c2), (4, vI v4)]) C dX2_findMend_82 (by decide) rfl ?_
      refine r_aload_n C 1 0 dX2_findMend_84 rfl rfl ?_
      refine r_getR (kf := 2) (d2 := (15, 0, 0)) C dX2_findMend_85 rfl rfl f_X2 (by decide) t_1_211 rfl rfl ?_
      refine r_iload C 4 dX2_findMend_88 rfl ?_
      obtain ⟨h16, hF⟩ := ck_e hF
      refine r_iaload C (v4.toNatClampNeg) dX2_findMend_90 rfl h16 rfl ?_
      obtain ⟨k18, ek18, hF⟩ := nam_e hF
      have hk18 : ∀ (y17 : Int32) (σ19 : St), k18 y17 σ19 = some (r, σ') → Rt G p l e (lvl 5) s m args below meth c 0 0 (MQ below (va_Qi (fun a b => a = r ∧ b = σ') (Wd G) (AG G)) args s 0 0 (AG G)) 9 105 [(0, vR (13, 0, 0)), (1, vR (3, q1, 0)), (2, vI c2), (4, vI v4), (5, vI x15)] [vI y17] σ19 := by
        intro y17 σ19 hF
        subst ek18
        refine r_istore (ls2 := [(6, vI y17), (0, vR (13, 0, 0)), (1, vR (3, q1, 0)), (2, vI c2), (4, vI v4), (5, vI x15)]) C dX2_findMend_105 (by decide) rfl ?_
        refine r_iconst (v := (0 : Int32)) C dX2_findMend_107 rfl ?_
        refine r_istore (ls2 := [(7, vI (0 : Int32)), (6, vI y17), (0, vR (13, 0, 0)), (1, vR (3, q1, 0)), (2, vI c2), (4, vI v4), (5, vI x15)]) C dX2_findMend_108 (by decide) rfl ?_
        refine r_drop (ls2 := [(0, vR (13, 0, 0)), (1, vR (3, q1, 0)), (2, vI c2), (4, vI v4), (5, vI x15), (6, vI y17), (7, vI (0 : Int32))]) [2, 3, 4, 5, 6, 1, 0] rfl ?_
        refine l_X2_findMend_110 C q1 c2 v4 x15 y17 _ ?_ _ _ _ hF
        · intro  σ39 hF
          refine r_aload_n C 0 0 dX2_findMend_205 rfl rfl ?_
          refine r_getR (kf := 0) (d2 := (7, 3, 0)) C dX2_findMend_206 rfl rfl f_X2 (by decide) t_1_209 rfl rfl ?_
          refine r_getR (kf := 0) (d2 := (8, 3, 0)) C dX2_findMend_209 rfl rfl f_X6 (by decide) t_1_153 rfl rfl ?_
          refine r_iload C 3 dX2_findMend_212 rfl ?_
          refine r_iload C 4 dX2_findMend_214 rfl ?_
          obtain ⟨h40, hF⟩ := ck_e hF
          obtain ⟨σ41, eσ41, hF⟩ := nam_e hF
          refine r_iastore C (v4.toNatClampNeg) dX2_findMend_216 rfl h40 rfl eσ41 ?_
          obtain ⟨x42, ex42, hF⟩ := nam_e hF
          refine r_iinc (v := x42) (ls2 := [(4, vI x42), (0, vR (13, 0, 0)), (1, vR (3, q1, 0)), (2, vI c2), (5, vI x15)]) C 3 dX2_findMend_217 rfl ex42.symm (by decide) rfl ?_
          refine r_goto C 65 dX2_findMend_220 (by decide) ?_
          refine r_drop (ls2 := [(0, vR (13, 0, 0)), (1, vR (3, q1, 0)), (2, vI c2), (4, vI x42)]) [1, 2, 3, 0] rfl ?_
          exact ih _ _ hF
      refine r_if_eq C 104 dX2_findMend_91 (by decide)  (fun h44 => ?_) (fun h44 => ?_)
      · have hF := if_t h44 hF
        refine r_iconst (v := (0 : Int32)) C dX2_findMend_104 rfl ?_
        refine r_drop (ls2 := [(0, vR (13, 0, 0)), (1, vR (3, q1, 0)), (2, vI c2), (4, vI v4), (5, vI x15)]) [1, 2, 3, 4, 0] rfl ?_
        exact hk18 _ _ hF
      · have hF := if_f h44 hF
        refine r_iload C 0 dX2_findMend_94 rfl ?_
        refine r_iconst (v := (4 : Int32)) C dX2_findMend_96 rfl ?_
        refine r_icmp_gt C 104 dX2_findMend_97 (by decide)  (fun h43 => ?_) (fun h43 => ?_)
        · have hF := if_t h43 hF
          refine r_iconst (v := (0 : Int32)) C dX2_findMend_104 rfl ?_
          refine r_drop (ls2 := [(0, vR (13, 0, 0)), (1, vR (3, q1, 0)), (2, vI c2), (4, vI v4), (5, vI x15)]) [1, 2, 3, 4, 0] rfl ?_
          exact hk18 _ _ hF
        · have hF := if_f h43 hF
          refine r_iconst (v := (1 : Int32)) C dX2_findMend_100 rfl ?_
          refine r_goto C 105 dX2_findMend_101 (by decide) ?_
          refine r_drop (ls2 := [(0, vR (13, 0, 0)), (1, vR (3, q1, 0)), (2, vI c2), (4, vI v4), (5, vI x15)]) [1, 2, 3, 4, 0] rfl ?_
          exact hk18 _ _ hF
set_option maxRecDepth 20000 in
set_option maxHeartbeats 4000000 in
theorem s_X2_findMend (G : Gx) (l : Launch) {q1 : Nat} {a2 : Int32} {σ σ' : St} {r : Int32} (hF : F_X2_findMend q1 a2 σ = some (r, σ')) : Sp G l yX2_findMend cX2_findMend 9 (some .boolean) (lvl 5) [vR (13, 0, 0), vR (3, q1, 0), vI a2] σ (va_Qi (fun a b => a = r ∧ b = σ') (Wd G) (AG G)) := by
  refine Sp_of (own := RX2) (by decide) rfl (Nat.le_of_ble_eq_true rfl) ?_
  intro p e s m args below meth c C
  show Rt G p l e (lvl 5) s m args below meth c 0 0 (MQ below (va_Qi (fun a b => a = r ∧ b = σ') (Wd G) (AG G)) args s 0 0 (AG G)) 9 0 [(0, vR (13, 0, 0)), (1, vR (3, q1, 0)), (2, vI a2)] [] σ
  unfold F_X2_findMend at hF
  refine r_aload_n C 0 0 dX2_findMend_0 rfl rfl ?_
  refine r_getR (kf := 1) (d2 := (14, 0, 0)) C dX2_findMend_1 rfl rfl f_X2 (by decide) t_1_210 rfl rfl ?_
  refine r_iconst (v := (0 : Int32)) C dX2_findMend_4 rfl ?_
  obtain ⟨⟨⟩, σ1, e2, hF⟩ := bd_e hF
  refine r_callS_v (as := [vR (14, 0, 0), vI (0 : Int32)]) (st := []) C dX2_findMend_5 (s_J7_fill_53178_t14 G l e2) t_4_111 t_1_110 t_1_6 t_1_111 m_J7_fill_53178 ⟨Nat.le_of_ble_eq_true rfl, Nat.le_of_ble_eq_true rfl⟩ ⟨rfl, rfl⟩ ⟨Nat.zero_le _, Nat.zero_le _⟩ rfl (Nat.le_of_ble_eq_true rfl) ?_
  refine r_aload_n C 0 0 dX2_findMend_8 rfl rfl ?_
  refine r_aload_n C 1 1 dX2_findMend_9 rfl rfl ?_
  refine r_iload_n C 2 2 dX2_findMend_10 rfl rfl ?_
  refine r_sipush (v := (400 : Int32)) C dX2_findMend_11 rfl ?_
  obtain ⟨r4, σ3, e5, hF⟩ := bd_e hF
  refine r_callV_i (as := [vR (3, q1, 0), vI a2, vI (400 : Int32)]) (st := []) C dX2_findMend_14 (s_X2_ticksTill G l e5) rfl rfl rfl t_4_112 t_4_74 t_4_75 t_1_8 t_4_76 m_X2_ticksTill ⟨Nat.le_of_ble_eq_true rfl, Nat.le_of_ble_eq_true rfl⟩ ⟨rfl, rfl⟩ ⟨Nat.zero_le _, Nat.zero_le _⟩ rfl (Nat.le_of_ble_eq_true rfl) ?_
  refine r_istore_n (ls2 := [(3, vI r4), (0, vR (13, 0, 0)), (1, vR (3, q1, 0)), (2, vI a2)]) C dX2_findMend_17 3 rfl (by decide) rfl ?_
  refine r_aload_n C 1 0 dX2_findMend_18 rfl rfl ?_
  refine r_getR (kf := 1) (d2 := (14, 0, 0)) C dX2_findMend_19 rfl rfl f_X2 (by decide) t_1_210 rfl rfl ?_
  refine r_iconst (v := (0 : Int32)) C dX2_findMend_22 rfl ?_
  refine r_aload_n C 1 0 dX2_findMend_23 rfl rfl ?_
  refine r_getR (kf := 2) (d2 := (15, 0, 0)) C dX2_findMend_24 rfl rfl f_X2 (by decide) t_1_211 rfl rfl ?_
  refine r_iconst (v := (0 : Int32)) C dX2_findMend_27 rfl ?_
  refine r_bipush (v := (96 : Int32)) C dX2_findMend_28 rfl ?_
  obtain ⟨h6, hF⟩ := ck_e hF
  obtain ⟨σ7, eσ7, hF⟩ := nam_e hF
  refine r_copyI C dX2_findMend_30 rfl rfl t_4_113 t_1_49 t_1_48 t_1_4 ⟨Nat.le_of_ble_eq_true rfl, Nat.le_of_ble_eq_true rfl⟩ h6 eσ7 ?_
  refine r_aload_n C 1 0 dX2_findMend_33 rfl rfl ?_
  refine r_iload_n C 0 3 dX2_findMend_34 rfl rfl ?_
  refine r_bipush (v := (-4 : Int32)) C dX2_findMend_35 rfl ?_
  obtain ⟨k9, ek9, hF⟩ := nam_e hF
  have hk9 : ∀ (y8 : Int32) (σ10 : St), k9 y8 σ10 = some (r, σ') → Rt G p l e (lvl 5) s m args below meth c 0 0 (MQ below (va_Qi (fun a b => a = r ∧ b = σ') (Wd G) (AG G)) args s 0 0 (AG G)) 9 47 [(0, vR (13, 0, 0)), (1, vR (3, q1, 0)), (2, vI a2)] [vI y8, vR (13, 0, 0)] σ10 := by
    intro y8 σ10 hF
    subst ek9
    obtain ⟨σ11, eσ11, hF⟩ := nam_e hF
    refine r_put (kf := 6) (ty0 := tyX2) C dX2_findMend_47 rfl rfl f_X2 tyX2_ok nmX2 (by decide) t_1_215 rfl rfl rfl rfl eσ11 ?_
    refine r_aload_n C 0 0 dX2_findMend_50 rfl rfl ?_
    refine r_bipush (v := (-4 : Int32)) C dX2_findMend_51 rfl ?_
    obtain ⟨σ12, eσ12, hF⟩ := nam_e hF
    refine r_put (kf := 7) (ty0 := tyX2) C dX2_findMend_53 rfl rfl f_X2 tyX2_ok nmX2 (by decide) t_1_217 rfl rfl rfl rfl eσ12 ?_
    refine r_aload_n C 0 0 dX2_findMend_56 rfl rfl ?_
    refine r_bipush (v := (-4 : Int32)) C dX2_findMend_57 rfl ?_
    obtain ⟨σ13, eσ13, hF⟩ := nam_e hF
    refine r_put (kf := 8) (ty0 := tyX2) C dX2_findMend_59 rfl rfl f_X2 tyX2_ok nmX2 (by decide) t_1_219 rfl rfl rfl rfl eσ13 ?_
    refine r_iconst (v := (0 : Int32)) C dX2_findMend_62 rfl ?_
    refine r_istore (ls2 := [(4, vI (0 : Int32)), (0, vR (13, 0, 0)), (1, vR (3, q1, 0)), (2, vI a2)]) C dX2_findMend_63 (by decide) rfl ?_
    refine r_drop (ls2 := [(0, vR (13, 0, 0)), (1, vR (3, q1, 0)), (2, vI a2), (4, vI (0 : Int32))]) [1, 2, 3, 0] rfl ?_
    refine l_X2_findMend_65 C q1 a2 _ ?_ _ _ _ hF
    · intro  σ46 hF
      refine r_aload_n C 0 0 dX2_findMend_223 rfl rfl ?_
      refine r_getI (kf := 7) C dX2_findMend_224 rfl rfl f_X2 (by decide) t_1_217 rfl ?_
      refine r_bipush (v := (-4 : Int32)) C dX2_findMend_227 rfl ?_
      refine r_icmp_eq C 236 dX2_findMend_229 (by decide)  (fun h47 => ?_) (fun h47 => ?_)
      · have hF := if_t h47 hF
        refine r_iconst (v := (0 : Int32)) C dX2_findMend_236 rfl ?_
        exact r_zreturn C dX2_findMend_237 (nar_z (Or.inl rfl)) (rt_e hF)
      · have hF := if_f h47 hF
        refine r_iconst (v := (1 : Int32)) C dX2_findMend_232 rfl ?_
        refine r_goto C 237 dX2_findMend_233 (by decide) ?_
        exact r_zreturn C dX2_findMend_237 (nar_z (Or.inr rfl)) (rt_e hF)
  refine r_icmp_ne C 46 dX2_findMend_37 (by decide)  (fun h48 => ?_) (fun h48 => ?_)
  · have hF := if_f h48 hF
    refine r_iload_n C 0 3 dX2_findMend_46 rfl rfl ?_
    refine r_drop (ls2 := [(0, vR (13, 0, 0)), (1, vR (3, q1, 0)), (2, vI a2)]) [1, 2, 3] rfl ?_
    exact hk9 _ _ hF
  · have hF := if_t h48 hF
    refine r_sipush (v := (401 : Int32)) C dX2_findMend_40 rfl ?_
    refine r_goto C 47 dX2_findMend_43 (by decide) ?_
    refine r_drop (ls2 := [(0, vR (13, 0, 0)), (1, vR (3, q1, 0)), (2, vI a2)]) [1, 2, 3] rfl ?_
    exact hk9 _ _ hF
