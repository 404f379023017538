def L_X11_next_8  : Nat → St → (St → Option (Unit × St)) → Option (Unit × St)
  | 0, _, _ => none
  | n + 1, τ, kx34 =>
  bd (F_X11_look (τ.1 (40, 0, 0) 9) τ) fun r2 σ1 => (if r2 = (32 : Int32) then nam (uI σ1 (40, 0, 0) 9 ((σ1.1 (40, 0, 0) 9) + (1 : Int32))) fun σ4 => L_X11_next_8 n  σ4 kx34 else kx34  σ1)
def L_X11_next_140  : Nat → St → (St → Option (Unit × St)) → Option (Unit × St)
  | 0, _, _ => none
  | n + 1, τ, kx217 =>
  bd (F_X11_look (τ.1 (40, 0, 0) 9) τ) fun r28 σ27 => bd (F_X11_in (r28.toInt64) (48 : Int64) (57 : Int64) σ27) fun r31 σ30 => (if r31 = 0 then kx217  σ30 else nam (fun (y33 : Int32) (σ35 : St) => nam (uI σ35 (40, 0, 0) 12 y33) fun σ36 => nam (uI σ36 (40, 0, 0) 9 ((σ36.1 (40, 0, 0) 9) + (1 : Int32))) fun σ37 => L_X11_next_140 n  σ37 kx217) fun k34 => (if (2 : Int32) ≤ ((σ30.1 (40, 0, 0) 9) - (σ30.1 (40, 0, 0) 10)) then k34 (σ30.1 (40, 0, 0) 12) σ30 else bd (F_X11_look (σ30.1 (40, 0, 0) 9) σ30) fun r39 σ38 => k34 ((((10 : Int32) * (σ30.1 (40, 0, 0) 12)) + r39) - (48 : Int32)) σ38))
def L_X11_next_82  : Nat → St → Option (Unit × St)
  | 0, _ => none
  | n + 1, τ =>
  bd (F_X11_look (τ.1 (40, 0, 0) 9) τ) fun r53 σ52 => bd (F_X11_in (r53.toInt64) (97 : Int64) (122 : Int64) σ52) fun r56 σ55 => (if r56 = 0 then some ((), σ55) else nam (uI σ55 (40, 0, 0) 9 ((σ55.1 (40, 0, 0) 9) + (1 : Int32))) fun σ58 => L_X11_next_82 n  σ58)
def F_X11_next  (σ : St) : Option (Unit × St) :=
  (if (σ.1 (40, 0, 0) 13) ≤ 0 then L_X11_next_8  FU  σ (fun  (σ6 : St) => nam (uI σ6 (40, 0, 0) 10 (σ6.1 (40, 0, 0) 9)) fun σ7 => bd (F_X11_look (σ7.1 (40, 0, 0) 9) σ7) fun r9 σ8 => (if 0 ≤ r9 then bd (F_X11_in (r9.toInt64) (97 : Int64) (122 : Int64) σ8) fun r12 σ11 => (if r12 = 0 then bd (F_X11_in (r9.toInt64) (48 : Int64) (57 : Int64) σ11) fun r15 σ14 => (if r15 = 0 then nam (uI σ14 (40, 0, 0) 11 (3 : Int32)) fun σ17 => nam (fun (y18 : Int32) (σ20 : St) => bd (F_X11_needs y18 (1 : Int32) σ20) fun _ σ21 => nam (uI σ21 (40, 0, 0) 9 ((σ21.1 (40, 0, 0) 9) + (1 : Int32))) fun σ23 => some ((), σ23)) fun k19 => (if r9 = (59 : Int32) then k19 (1 : Int32) σ17 else k19 (0 : Int32) σ17) else nam (uI σ14 (40, 0, 0) 11 (2 : Int32)) fun σ25 => nam (uI σ25 (40, 0, 0) 12 (0 : Int32)) fun σ26 => L_X11_next_140  FU  σ26 (fun  (σ43 : St) => nam (fun (y44 : Int32) (σ46 : St) => bd (F_X11_needs y44 (1 : Int32) σ46) fun _ σ47 => some ((), σ47)) fun k45 => (if (2 : Int32) < ((σ43.1 (40, 0, 0) 9) - (σ43.1 (40, 0, 0) 10)) then k45 (0 : Int32) σ43 else k45 (1 : Int32) σ43))) else nam (uI σ11 (40, 0, 0) 11 (1 : Int32)) fun σ51 => L_X11_next_82  FU  σ51 ) else nam (uI σ8 (40, 0, 0) 11 (0 : Int32)) fun σ61 => some ((), σ61))) else some ((), σ))
set_option maxRecDepth 20000 in
set_option maxHeartbeats 4000000 in
theorem l_X11_next_8 {G : Gx} {p : Program} {l : Launch} {e : Env} {s : State} {m : MethodId} {args : Array Value} {below : List Frame} {meth : Method} {c : Code} (C : Cx G p s m args meth c none 2 RX11 cX11_next)  {σ' : St}  (kx34 : St → Option (Unit × St)) (hkx34 : ∀  (τ : St), kx34  τ = some ((), σ') → Rt G p l e (lvl 1) s m args below meth c 0 0 (MQ below (va_Qv (fun b => b = σ') (Wd G) (AG G)) args s 0 0 (AG G)) 2 34 [(0, vR (40, 0, 0))] [] τ) : ∀ (n : Nat)  (τ : St), L_X11_next_8  n  τ kx34 = some ((), σ') → Rt G p l e (lvl 1) s m args below meth c 0 0 (MQ below (va_Qv (fun b => b = σ') (Wd G) (AG G)) args s 0 0 (AG G)) 2 8 [(0, vR (40, 0, 0))] [] τ := by
  intro n
  induction n with
  | zero => intro  τ hF; cases hF
  | succ n ih =>
    intro  τ hF
    unfold L_X11_next_8 at hF
    refine r_aload_n C 0 0 dX11_next_8 rfl rfl ?_
    refine r_aload_n C 0 0 dX11_next_9 rfl rfl ?_
    refine r_getI (kf := 9) C dX11_next_10 rfl rfl f_X11 (by decide) t_5_67 rfl ?_
    obtain ⟨r2, σ1, e3, hF⟩ := bd_e hF
    refine r_callV_i (as := [vI (τ.1 (40, 0, 0) 9)]) (st := []) C dX11_next_13 (s_X11_look G l e3) rfl rfl rfl t_5_166 t_5_168 t_s_24 t_1_14 t_5_169 m_X11_look ⟨Nat.le_of_ble_eq_true rfl, Nat.le_of_ble_eq_true rfl⟩ ⟨rfl, rfl⟩ ⟨Nat.zero_le _, Nat.zero_le _⟩ rfl (Nat.le_of_ble_eq_true rfl) ?_
    refine r_bipush (v := (32 : Int32)) C dX11_next_16 rfl ?_
    refine r_icmp_ne C 34 dX11_next_18 (by decide)  (fun h5 => ?_) (fun h5 => ?_)
    · have hF := if_f h5 hF
      exact hkx34 _ hF
    · have hF := if_t h5 hF
      refine r_aload_n C 0 0 dX11_next_21 rfl rfl ?_
      refine r_dup_r C dX11_next_22 ?_
      refine r_getI (kf := 9) C dX11_next_23 rfl rfl f_X11 (by decide) t_5_67 rfl ?_
      refine r_iconst (v := (1 : Int32)) C dX11_next_26 rfl ?_
      refine r_iadd C dX11_next_27 ?_
      obtain ⟨σ4, eσ4, hF⟩ := nam_e hF
      refine r_put (kf := 9) (ty0 := tyX11) C dX11_next_28 rfl rfl f_X11 tyX11_ok nmX11 (by decide) t_5_67 rfl rfl rfl rfl eσ4 ?_
      refine r_goto C 8 dX11_next_31 (by decide) ?_
      exact ih _ hF
set_option maxRecDepth 20000 in
set_option maxHeartbeats 4000000 in
theorem l_X11_next_140 {G : Gx} {p : Program} {l : Launch} {e : Env} {s : State} {m : MethodId} {args : Array Value} {below : List Frame} {meth : Method} {c : Code} (C : Cx G p s m args meth c none 2 RX11 cX11_next)  {σ' : St}  (kx217 : St → Option (Unit × St)) (hkx217 : ∀  (τ : St), kx217  τ = some ((), σ') → Rt G p l e (lvl 1) s m args below meth c 0 0 (MQ below (va_Qv (fun b => b = σ') (Wd G) (AG G)) args s 0 0 (AG G)) 2 217 [(0, vR (40, 0, 0))] [] τ) : ∀ (n : Nat)  (τ : St), L_X11_next_140  n  τ kx217 = some ((), σ') → Rt G p l e (lvl 1) s m args below meth c 0 0 (MQ below (va_Qv (fun b => b = σ') (Wd G) (AG G)) args s 0 0 (AG G)) 2 140 [(0, vR (40, 0, 0))] [] τ := by
  intro n
  induction n with
  | zero => intro  τ hF; cases hF
  | succ n ih =>
    intro  τ hF
    unfold L_X11_next_140 at hF
    refine r_aload_n C 0 0 dX11_next_140 rfl rfl ?_
    refine r_aload_n C 0 0 dX11_next_141 rfl rfl ?_
    refine r_getI (kf := 9) C dX11_next_142 rfl rfl f_X11 (by decide) t_5_67 rfl ?_
    obtain ⟨r28, σ27, e29, hF⟩ := bd_e hF
    refine r_callV_i (as := [vI (τ.1 (40, 0, 0) 9)]) (st := []) C dX11_next_145 (s_X11_look G l e29) rfl rfl rfl t_5_166 t_5_168 t_s_24 t_1_14 t_5_169 m_X11_look ⟨Nat.le_of_ble_eq_true rfl, Nat.le_of_ble_eq_true rfl⟩ ⟨rfl, rfl⟩ ⟨Nat.zero_le _, Nat.zero_le _⟩ rfl (Nat.le_of_ble_eq_true rfl) ?_
    refine r_i2l C dX11_next_148 ?_
    refine r_ldc2_w (v := (48 : Int64)) C dX11_next_149 t_5_172 ?_
    refine r_ldc2_w (v := (57 : Int64)) C dX11_next_152 t_5_173 ?_
    obtain ⟨r31, σ30, e32, hF⟩ := bd_e hF
    refine r_callS_i (as := [vL (r28.toInt64), vL (48 : Int64), vL (57 : Int64)]) (st := []) C dX11_next_155 (s_X11_in G l e32) t_5_155 t_5_156 t_1_14 t_5_157 m_X11_in ⟨Nat.le_of_ble_eq_true rfl, Nat.le_of_ble_eq_true rfl⟩ ⟨rfl, rfl⟩ ⟨Nat.zero_le _, Nat.zero_le _⟩ rfl (Nat.le_of_ble_eq_true rfl) ?_
    refine r_if_eq C 217 dX11_next_158 (by decide)  (fun h42 => ?_) (fun h42 => ?_)
    · have hF := if_t h42 hF
      exact hkx217 _ hF
    · have hF := if_f h42 hF
      refine r_aload_n C 0 0 dX11_next_161 rfl rfl ?_
      refine r_aload_n C 0 0 dX11_next_162 rfl rfl ?_
      refine r_getI (kf := 9) C dX11_next_163 rfl rfl f_X11 (by decide) t_5_67 rfl ?_
      refine r_aload_n C 0 0 dX11_next_166 rfl rfl ?_
      refine r_getI (kf := 10) C dX11_next_167 rfl rfl f_X11 (by decide) t_5_68 rfl ?_
      refine r_isub C dX11_next_170 ?_
      refine r_iconst (v := (2 : Int32)) C dX11_next_171 rfl ?_
      obtain ⟨k34, ek34, hF⟩ := nam_e hF
      have hk34 : ∀ (y33 : Int32) (σ35 : St), k34 y33 σ35 = some ((), σ') → Rt G p l e (lvl 1) s m args below meth c 0 0 (MQ below (va_Qv (fun b => b = σ') (Wd G) (AG G)) args s 0 0 (AG G)) 2 201 [(0, vR (40, 0, 0))] [vI y33, vR (40, 0, 0)] σ35 := by
        intro y33 σ35 hF
        subst ek34
        obtain ⟨σ36, eσ36, hF⟩ := nam_e hF
        refine r_put (kf := 12) (ty0 := tyX11) C dX11_next_201 rfl rfl f_X11 tyX11_ok nmX11 (by decide) t_5_70 rfl rfl rfl rfl eσ36 ?_
        refine r_aload_n C 0 0 dX11_next_204 rfl rfl ?_
        refine r_dup_r C dX11_next_205 ?_
        refine r_getI (kf := 9) C dX11_next_206 rfl rfl f_X11 (by decide) t_5_67 rfl ?_
        refine r_iconst (v := (1 : Int32)) C dX11_next_209 rfl ?_
        refine r_iadd C dX11_next_210 ?_
        obtain ⟨σ37, eσ37, hF⟩ := nam_e hF
        refine r_put (kf := 9) (ty0 := tyX11) C dX11_next_211 rfl rfl f_X11 tyX11_ok nmX11 (by decide) t_5_67 rfl rfl rfl rfl eσ37 ?_
        refine r_goto C 140 dX11_next_214 (by decide) ?_
        exact ih _ hF
      refine r_icmp_ge C 197 dX11_next_172 (by decide)  (fun h41 => ?_) (fun h41 => ?_)
      · have hF := if_t h41 hF
        refine r_aload_n C 0 0 dX11_next_197 rfl rfl ?_
        refine r_getI (kf := 12) C dX11_next_198 rfl rfl f_X11 (by decide) t_5_70 rfl ?_
        exact hk34 _ _ hF
      · have hF := if_f h41 hF
        refine r_bipush (v := (10 : Int32)) C dX11_next_175 rfl ?_
        refine r_aload_n C 0 0 dX11_next_177 rfl rfl ?_
        refine r_getI (kf := 12) C dX11_next_178 rfl rfl f_X11 (by decide) t_5_70 rfl ?_
        refine r_imul C dX11_next_181 ?_
        refine r_aload_n C 0 0 dX11_next_182 rfl rfl ?_
        refine r_aload_n C 0 0 dX11_next_183 rfl rfl ?_
        refine r_getI (kf := 9) C dX11_next_184 rfl rfl f_X11 (by decide) t_5_67 rfl ?_
        obtain ⟨r39, σ38, e40, hF⟩ := bd_e hF
        refine r_callV_i (as := [vI (σ30.1 (40, 0, 0) 9)]) (st := [vI ((10 : Int32) * (σ30.1 (40, 0, 0) 12)), vR (40, 0, 0)]) C dX11_next_187 (s_X11_look G l e40) rfl rfl rfl t_5_166 t_5_168 t_s_24 t_1_14 t_5_169 m_X11_look ⟨Nat.le_of_ble_eq_true rfl, Nat.le_of_ble_eq_true rfl⟩ ⟨rfl, rfl⟩ ⟨Nat.zero_le _, Nat.zero_le _⟩ rfl (Nat.le_of_ble_eq_true rfl) ?_
        refine r_iadd C dX11_next_190 ?_
        refine r_bipush (v := (48 : Int32)) C dX11_next_191 rfl ?_
        refine r_isub C dX11_next_193 ?_
        refine r_goto C 201 dX11_next_194 (by decide) ?_
        exact hk34 _ _ hF
set_option maxRecDepth 20000 in
set_option maxHeartbeats 4000000 in
theorem l_X11_next_82 {G : Gx} {p : Program} {l : Launch} {e : Env} {s : State} {m : MethodId} {args : Array Value} {below : List Frame} {meth : Method} {c : Code} (C : Cx G p s m args meth c none 2 RX11 cX11_next)  {σ' : St}  : ∀ (n : Nat)  (τ : St), L_X11_next_82  n  τ = some ((), σ') → Rt G p l e (lvl 1) s m args below meth c 0 0 (MQ below (va_Qv (fun b => b = σ') (Wd G) (AG G)) args s 0 0 (AG G)) 2 82 [(0, vR (40, 0, 0))] [] τ := by
  intro n
  induction n with
  | zero => intro  τ hF; cases hF
  | succ n ih =>
    intro  τ hF
    unfold L_X11_next_82 at hF
    refine r_aload_n C 0 0 dX11_next_82 rfl rfl ?_
    refine r_aload_n C 0 0 dX11_next_83 rfl rfl ?_
    refine r_getI (kf := 9) C dX11_next_84 rfl rfl f_X11 (by decide) t_5_67 rfl ?_
    obtain ⟨r53, σ52, e54, hF⟩ := bd_e hF
    refine r_callV_i (as := [vI (τ.1 (40, 0, 0) 9)]) (st := []) C dX11_next_87 (s_X11_look G l e54) rfl rfl rfl t_5_166 t_5_168 t_s_24 t_1_14 t_5_169 m_X11_look ⟨Nat.le_of_ble_eq_true rfl, Nat.le_of_ble_eq_true rfl⟩ ⟨rfl, rfl⟩ ⟨Nat.zero_le _, Nat.zero_le _⟩ rfl (Nat.le_of_ble_eq_true rfl) ?_
    refine r_i2l C dX11_next_90 ?_
    refine r_ldc2_w (v := (97 : Int64)) C dX11_next_91 t_5_170 ?_
    refine r_ldc2_w (v := (122 : Int64)) C dX11_next_94 t_5_171 ?_
    obtain ⟨r56, σ55, e57, hF⟩ := bd_e hF
    refine r_callS_i (as := [vL (r53.toInt64), vL (97 : Int64), vL (122 : Int64)]) (st := []) C dX11_next_97 (s_X11_in G l e57) t_5_155 t_5_156 t_1_14 t_5_157 m_X11_in ⟨Nat.le_of_ble_eq_true rfl, Nat.le_of_ble_eq_true rfl⟩ ⟨rfl, rfl⟩ ⟨Nat.zero_le _, Nat.zero_le _⟩ rfl (Nat.le_of_ble_eq_true rfl) ?_
    refine r_if_eq C 274 dX11_next_100 (by decide)  (fun h59 => ?_) (fun h59 => ?_)
    · have hF := if_t h59 hF
      exact r_return C dX11_next_274 (rv_e hF)
    · have hF := if_f h59 hF
      refine r_aload_n C 0 0 dX11_next_103 rfl rfl ?_
      refine r_dup_r C dX11_next_104 ?_
      refine r_getI (kf := 9) C dX11_next_105 rfl rfl f_X11 (by decide) t_5_67 rfl ?_
      refine r_iconst (v := (1 : Int32)) C dX11_next_108 rfl ?_
      refine r_iadd C dX11_next_109 ?_
      obtain ⟨σ58, eσ58, hF⟩ := nam_e hF
      refine r_put (kf := 9) (ty0 := tyX11) C dX11_next_110 rfl rfl f_X11 tyX11_ok nmX11 (by decide) t_5_67 rfl rfl rfl rfl eσ58 ?_
      refine r_goto C 82 dX11_next_113 (by decide) ?_
      exact ih _ hF
set_option maxRecDepth 20000 in
set_option maxHeartbeats 4000000 in
theorem s_X11_next (G : Gx) (l : Launch)  {σ σ' : St}  (hF : F_X11_next  σ = some ((), σ')) : Sp G l yX11_next cX11_next 2 none (lvl 1) [vR (40, 0, 0)] σ (va_Qv (fun b => b = σ') (Wd G) (AG G)) := by
  refine Sp_of (own := RX11) (by decide) rfl (Nat.le_of_ble_eq_true rfl) ?_
  intro p e s m args below meth c C
  show Rt G p l e (lvl 1) s m args below meth c 0 0 (MQ below (va_Qv (fun b => b = σ') (Wd G) (AG G)) args s 0 0 (AG G)) 2 0 [(0, vR (40, 0, 0))] [] σ
  unfold F_X11_next at hF
  refine r_aload_n C 0 0 dX11_next_0 rfl rfl ?_
  refine r_getI (kf := 13) C dX11_next_1 rfl rfl f_X11 (by decide) t_5_71 rfl ?_
  refine r_if_le C 8 dX11_next_4 (by decide)  (fun h63 => ?_) (fun h63 => ?_)
  · have hF := if_t h63 hF
    refine l_X11_next_8 C  _ ?_ _ _ hF
    · intro  σ6 hF
      refine r_aload_n C 0 0 dX11_next_34 rfl rfl ?_
      refine r_aload_n C 0 0 dX11_next_35 rfl rfl ?_
      refine r_getI (kf := 9) C dX11_next_36 rfl rfl f_X11 (by decide) t_5_67 rfl ?_
      obtain ⟨σ7, eσ7, hF⟩ := nam_e hF
      refine r_put (kf := 10) (ty0 := tyX11) C dX11_next_39 rfl rfl f_X11 tyX11_ok nmX11 (by decide) t_5_68 rfl rfl rfl rfl eσ7 ?_
      refine r_aload_n C 0 0 dX11_next_42 rfl rfl ?_
      refine r_aload_n C 0 0 dX11_next_43 rfl rfl ?_
      refine r_getI (kf := 9) C dX11_next_44 rfl rfl f_X11 (by decide) t_5_67 rfl ?_
      obtain ⟨r9, σ8, e10, hF⟩ := bd_e hF
      refine r_callV_i (as := [vI (σ7.1 (40, 0, 0) 9)]) (st := []) C dX11_next_47 (s_X11_look G l e10) rfl rfl rfl t_5_166 t_5_168 t_s_24 t_1_14 t_5_169 m_X11_look ⟨Nat.le_of_ble_eq_true rfl, Nat.le_of_ble_eq_true rfl⟩ ⟨rfl, rfl⟩ ⟨Nat.zero_le _, Nat.zero_le _⟩ rfl (Nat.le_of_ble_eq_true rfl) ?_
      refine r_istore_n (ls2 := [(1, vI r9), (0, vR (40, 0, 0))]) C dX11_next_50 1 rfl (by decide) rfl ?_
      refine r_iload_n C 0 1 dX11_next_51 rfl rfl ?_
      refine r_if_ge C 63 dX11_next_52 (by decide)  (fun h62 => ?_) (fun h62 => ?_)
      · have hF := if_t h62 hF
        refine r_iload_n C 0 1 dX11_next_63 rfl rfl ?_
        refine r_i2l C dX11_next_64 ?_
        refine r_ldc2_w (v := (97 : Int64)) C dX11_next_65 t_5_170 ?_
        refine r_ldc2_w (v := (122 : Int64)) C dX11_next_68 t_5_171 ?_
        obtain ⟨r12, σ11, e13, hF⟩ := bd_e hF
        refine r_callS_i (as := [vL (r9.toInt64), vL (97 : Int64), vL (122 : Int64)]) (st := []) C dX11_next_71 (s_X11_in G l e13) t_5_155 t_5_156 t_1_14 t_5_157 m_X11_in ⟨Nat.le_of_ble_eq_true rfl, Nat.le_of_ble_eq_true rfl⟩ ⟨rfl, rfl⟩ ⟨Nat.zero_le _, Nat.zero_le _⟩ rfl (Nat.le_of_ble_eq_true rfl) ?_
        refine r_if_eq C 116 dX11_next_74 (by decide)  (fun h60 => ?_) (fun h60 => ?_)
        · have hF := if_t h60 hF
          refine r_iload_n C 0 1 dX11_next_116 rfl rfl ?_
          refine r_i2l C dX11_next_117 ?_
          refine r_ldc2_w (v := (48 : Int64)) C dX11_next_118 t_5_172 ?_
          refine r_ldc2_w (v := (57 : Int64)) C dX11_next_121 t_5_173 ?_
          obtain ⟨r15, σ14, e16, hF⟩ := bd_e hF
          refine r_callS_i (as := [vL (r9.toInt64), vL (48 : Int64), vL (57 : Int64)]) (st := []) C dX11_next_124 (s_X11_in G l e16) t_5_155 t_5_156 t_1_14 t_5_157 m_X11_in ⟨Nat.le_of_ble_eq_true rfl, Nat.le_of_ble_eq_true rfl⟩ ⟨rfl, rfl⟩ ⟨Nat.zero_le _, Nat.zero_le _⟩ rfl (Nat.le_of_ble_eq_true rfl) ?_
          refine r_if_eq C 243 dX11_next_127 (by decide)  (fun h50 => ?_) (fun h50 => ?_)
          · have hF := if_t h50 hF
            refine r_aload_n C 1 0 dX11_next_243 rfl rfl ?_
            refine r_iconst (v := (3 : Int32)) C dX11_next_244 rfl ?_
            obtain ⟨σ17, eσ17, hF⟩ := nam_e hF
            refine r_put (kf := 11) (ty0 := tyX11) C dX11_next_245 rfl rfl f_X11 tyX11_ok nmX11 (by decide) t_5_69 rfl rfl rfl rfl eσ17 ?_
            refine r_aload_n C 1 0 dX11_next_248 rfl rfl ?_
            refine r_iload_n C 0 1 dX11_next_249 rfl rfl ?_
            refine r_bipush (v := (59 : Int32)) C dX11_next_250 rfl ?_
            obtain ⟨k19, ek19, hF⟩ := nam_e hF
            have hk19 : ∀ (y18 : Int32) (σ20 : St), k19 y18 σ20 = some ((), σ') → Rt G p l e (lvl 1) s m args below meth c 0 0 (MQ below (va_Qv (fun b => b = σ') (Wd G) (AG G)) args s 0 0 (AG G)) 2 260 [(0, vR (40, 0, 0))] [vI y18, vR (40, 0, 0)] σ20 := by
              intro y18 σ20 hF
              subst ek19
              refine r_iconst (v := (1 : Int32)) C dX11_next_260 rfl ?_
              obtain ⟨⟨⟩, σ21, e22, hF⟩ := bd_e hF
              refine r_callV_v (as := [vI y18, vI (1 : Int32)]) (st := []) C dX11_next_261 (s_X11_needs G l e22) rfl rfl rfl t_5_174 t_5_176 t_s_25 t_1_14 t_5_177 m_X11_needs ⟨Nat.le_of_ble_eq_true rfl, Nat.le_of_ble_eq_true rfl⟩ ⟨rfl, rfl⟩ ⟨Nat.zero_le _, Nat.zero_le _⟩ rfl (Nat.le_of_ble_eq_true rfl) ?_
              refine r_aload_n C 0 0 dX11_next_264 rfl rfl ?_
              refine r_dup_r C dX11_next_265 ?_
              refine r_getI (kf := 9) C dX11_next_266 rfl rfl f_X11 (by decide) t_5_67 rfl ?_
              refine r_iconst (v := (1 : Int32)) C dX11_next_269 rfl ?_
              refine r_iadd C dX11_next_270 ?_
              obtain ⟨σ23, eσ23, hF⟩ := nam_e hF
              refine r_put (kf := 9) (ty0 := tyX11) C dX11_next_271 rfl rfl f_X11 tyX11_ok nmX11 (by decide) t_5_67 rfl rfl rfl rfl eσ23 ?_
              exact r_return C dX11_next_274 (rv_e hF)
            refine r_icmp_ne C 259 dX11_next_252 (by decide)  (fun h24 => ?_) (fun h24 => ?_)
            · have hF := if_f h24 hF
              refine r_iconst (v := (0 : Int32)) C dX11_next_259 rfl ?_
              refine r_drop (ls2 := [(0, vR (40, 0, 0))]) [1] rfl ?_
              exact hk19 _ _ hF
            · have hF := if_t h24 hF
              refine r_iconst (v := (1 : Int32)) C dX11_next_255 rfl ?_
              refine r_goto C 260 dX11_next_256 (by decide) ?_
              refine r_drop (ls2 := [(0, vR (40, 0, 0))]) [1] rfl ?_
              exact hk19 _ _ hF
          · have hF := if_f h50 hF
            refine r_aload_n C 1 0 dX11_next_130 rfl rfl ?_
            refine r_iconst (v := (2 : Int32)) C dX11_next_131 rfl ?_
            obtain ⟨σ25, eσ25, hF⟩ := nam_e hF
            refine r_put (kf := 11) (ty0 := tyX11) C dX11_next_132 rfl rfl f_X11 tyX11_ok nmX11 (by decide) t_5_69 rfl rfl rfl rfl eσ25 ?_
            refine r_aload_n C 1 0 dX11_next_135 rfl rfl ?_
            refine r_iconst (v := (0 : Int32)) C dX11_next_136 rfl ?_
            obtain ⟨σ26, eσ26, hF⟩ := nam_e hF
            refine r_put (kf := 12) (ty0 := tyX11) C dX11_next_137 rfl rfl f_X11 tyX11_ok nmX11 (by decide) t_5_70 rfl rfl rfl rfl eσ26 ?_
            refine r_drop (ls2 := [(0, vR (40, 0, 0))]) [1] rfl ?_
            refine l_X11_next_140 C  _ ?_ _ _ hF
            · intro  σ43 hF
              refine r_aload_n C 0 0 dX11_next_217 rfl rfl ?_
              refine r_aload_n C 0 0 dX11_next_218 rfl rfl ?_
              refine r_getI (kf := 9) C dX11_next_219 rfl rfl f_X11 (by decide) t_5_67 rfl ?_
              refine r_aload_n C 0 0 dX11_next_222 rfl rfl ?_
              refine r_getI (kf := 10) C dX11_next_223 rfl rfl f_X11 (by decide) t_5_68 rfl ?_
              refine r_isub C dX11_next_226 ?_
              refine r_iconst (v := (2 : Int32)) C dX11_next_227 rfl ?_
              obtain ⟨k45, ek45, hF⟩ := nam_e hF
              have hk45 : ∀ (y44 : Int32) (σ46 : St), k45 y44 σ46 = some ((), σ') → Rt G p l e (lvl 1) s m args below meth c 0 0 (MQ below (va_Qv (fun b => b = σ') (Wd G) (AG G)) args s 0 0 (AG G)) 2 236 [] [vI y44, vR (40, 0, 0)] σ46 := by
                intro y44 σ46 hF
                subst ek45
                refine r_iconst (v := (1 : Int32)) C dX11_next_236 rfl ?_
                obtain ⟨⟨⟩, σ47, e48, hF⟩ := bd_e hF
                refine r_callV_v (as := [vI y44, vI (1 : Int32)]) (st := []) C dX11_next_237 (s_X11_needs G l e48) rfl rfl rfl t_5_174 t_5_176 t_s_25 t_1_14 t_5_177 m_X11_needs ⟨Nat.le_of_ble_eq_true rfl, Nat.le_of_ble_eq_true rfl⟩ ⟨rfl, rfl⟩ ⟨Nat.zero_le _, Nat.zero_le _⟩ rfl (Nat.le_of_ble_eq_true rfl) ?_
                refine r_goto C 274 dX11_next_240 (by decide) ?_
                exact r_return C dX11_next_274 (rv_e hF)
              refine r_icmp_gt C 235 dX11_next_228 (by decide)  (fun h49 => ?_) (fun h49 => ?_)
              · have hF := if_t h49 hF
                refine r_iconst (v := (0 : Int32)) C dX11_next_235 rfl ?_
                refine r_drop (ls2 := []) [] rfl ?_
                exact hk45 _ _ hF
              · have hF := if_f h49 hF
                refine r_iconst (v := (1 : Int32)) C dX11_next_231 rfl ?_
                refine r_goto C 236 dX11_next_232 (by decide) ?_
                refine r_drop (ls2 := []) [] rfl ?_
                exact hk45 _ _ hF
        · have hF := if_f h60 hF
          refine r_aload_n C 1 0 dX11_next_77 rfl rfl ?_
          refine r_iconst (v := (1 : Int32)) C dX11_next_78 rfl ?_
          obtain ⟨σ51, eσ51, hF⟩ := nam_e hF
          refine r_put (kf := 11) (ty0 := tyX11) C dX11_next_79 rfl rfl f_X11 tyX11_ok nmX11 (by decide) t_5_69 rfl rfl rfl rfl eσ51 ?_
          refine r_drop (ls2 := [(0, vR (40, 0, 0))]) [1] rfl ?_
          refine l_X11_next_82 C   _ _ hF
      · have hF := if_f h62 hF
        refine r_aload_n C 1 0 dX11_next_55 rfl rfl ?_
        refine r_iconst (v := (0 : Int32)) C dX11_next_56 rfl ?_
        obtain ⟨σ61, eσ61, hF⟩ := nam_e hF
        refine r_put (kf := 11) (ty0 := tyX11) C dX11_next_57 rfl rfl f_X11 tyX11_ok nmX11 (by decide) t_5_69 rfl rfl rfl rfl eσ61 ?_
        refine r_goto C 274 dX11_next_60 (by decide) ?_
        exact r_return C dX11_next_274 (rv_e hF)
  · have hF := if_f h63 hF
    exact r_return C dX11_next_7 (rv_e hF)
def F_X11_readNumber (a1 : Int32) (a2 : Int32) (σ : St) : Option (Int32 × St) :=
  nam (fun  (σ2 : St) => nam (fun  (σ4 : St) => nam (σ4.1 (40, 0, 0) 12) fun x5 => bd (F_X11_next  σ4) fun _ σ6 => some (x5, σ6)) fun k3 => (if (σ2.1 (40, 0, 0) 13) = 0 then bd (F_X11_in ((σ2.1 (40, 0, 0) 12).toInt64) (a1.toInt64) (a2.toInt64) σ2) fun r9 σ8 => bd (F_X11_needs r9 (3 : Int32) σ8) fun _ σ11 => k3  σ11 else k3  σ2)) fun k1 => (if (σ.1 (40, 0, 0) 13) = 0 then nam (fun (y14 : Int32) (σ16 : St) => bd (F_X11_needs y14 (2 : Int32) σ16) fun _ σ17 => k1  σ17) fun k15 => (if (σ.1 (40, 0, 0) 11) = (2 : Int32) then k15 (1 : Int32) σ else k15 (0 : Int32) σ) else k1  σ)
set_option maxRecDepth 20000 in
set_option maxHeartbeats 4000000 in
theorem s_X11_readNumber (G : Gx) (l : Launch) {a1 : Int32} {a2 : Int32} {σ σ' : St} {r : Int32} (hF : F_X11_readNumber a1 a2 σ = some (r, σ')) : Sp G l yX11_readNumber cX11_readNumber 4 (some .int) (lvl 2) [vR (40, 0, 0), vI a1, vI a2] σ (va_Qi (fun a b => a = r ∧ b = σ') (Wd G) (AG G)) := by
  refine Sp_of (own := RX11) (by decide) rfl (Nat.le_of_ble_eq_true rfl) ?_
  intro p e s m args below meth c C
  show Rt G p l e (lvl 2) s m args below meth c 0 0 (MQ below (va_Qi (fun a b => a = r ∧ b = σ') (Wd G) (AG G)) args s 0 0 (AG G)) 4 0 [(0, vR (40, 0, 0)), (1, vI a1), (2, vI a2)] [] σ
  unfold F_X11_readNumber at hF
  refine r_aload_n C 0 0 dX11_readNumber_0 rfl rfl ?_
  refine r_getI (kf := 13) C dX11_readNumber_1 rfl rfl f_X11 (by decide) t_5_71 rfl ?_
  obtain ⟨k1, ek1, hF⟩ := nam_e hF
  have hk1 : ∀  (σ2 : St), k1  σ2 = some (r, σ') → Rt G p l e (lvl 2) s m args below meth c 0 0 (MQ below (va_Qi (fun a b => a = r ∧ b = σ') (Wd G) (AG G)) args s 0 0 (AG G)) 4 25 [(0, vR (40, 0, 0)), (1, vI a1), (2, vI a2)] [] σ2 := by
    intro  σ2 hF
    subst ek1
    refine r_aload_n C 0 0 dX11_readNumber_25 rfl rfl ?_
    refine r_getI (kf := 13) C dX11_readNumber_26 rfl rfl f_X11 (by decide) t_5_71 rfl ?_
    obtain ⟨k3, ek3, hF⟩ := nam_e hF
    have hk3 : ∀  (σ4 : St), k3  σ4 = some (r, σ') → Rt G p l e (lvl 2) s m args below meth c 0 0 (MQ below (va_Qi (fun a b => a = r ∧ b = σ') (Wd G) (AG G)) args s 0 0 (AG G)) 4 49 [(0, vR (40, 0, 0))] [] σ4 := by
      intro  σ4 hF
      subst ek3
      refine r_aload_n C 0 0 dX11_readNumber_49 rfl rfl ?_
      refine r_getI (kf := 12) C dX11_readNumber_50 rfl rfl f_X11 (by decide) t_5_70 rfl ?_
      obtain ⟨x5, ex5, hF⟩ := nam_e hF
      refine r_topI ex5 ?_
      refine r_istore_n (ls2 := [(3, vI x5), (0, vR (40, 0, 0))]) C dX11_readNumber_53 3 rfl (by decide) rfl ?_
      refine r_aload_n C 1 0 dX11_readNumber_54 rfl rfl ?_
      obtain ⟨⟨⟩, σ6, e7, hF⟩ := bd_e hF
      refine r_callV_v (as := []) (st := []) C dX11_readNumber_55 (s_X11_next G l e7) rfl rfl rfl t_5_162 t_5_164 t_s_23 t_1_14 t_5_165 m_X11_next ⟨Nat.le_of_ble_eq_true rfl, Nat.le_of_ble_eq_true rfl⟩ ⟨rfl, rfl⟩ ⟨Nat.zero_le _, Nat.zero_le _⟩ rfl (Nat.le_of_ble_eq_true rfl) ?_
      refine r_iload_n C 0 3 dX11_readNumber_58 rfl rfl ?_
      exact r_ireturn C dX11_readNumber_59 (rt_e hF)
    refine r_if_ne C 49 dX11_readNumber_29 (by decide)  (fun h13 => ?_) (fun h13 => ?_)
    · have hF := if_f h13 hF
      refine r_drop (ls2 := [(0, vR (40, 0, 0))]) [0] rfl ?_
      exact hk3 _ hF
    · have hF := if_t h13 hF
      refine r_aload_n C 0 0 dX11_readNumber_32 rfl rfl ?_
      refine r_aload_n C 0 0 dX11_readNumber_33 rfl rfl ?_
      refine r_getI (kf := 12) C dX11_readNumber_34 rfl rfl f_X11 (by decide) t_5_70 rfl ?_
      refine r_i2l C dX11_readNumber_37 ?_
      refine r_iload_n C 1 1 dX11_readNumber_38 rfl rfl ?_
      refine r_i2l C dX11_readNumber_39 ?_
      refine r_iload_n C 2 2 dX11_readNumber_40 rfl rfl ?_
      refine r_i2l C dX11_readNumber_41 ?_
      obtain ⟨r9, σ8, e10, hF⟩ := bd_e hF
      refine r_callS_i (as := [vL ((σ2.1 (40, 0, 0) 12).toInt64), vL (a1.toInt64), vL (a2.toInt64)]) (st := [vR (40, 0, 0)]) C dX11_readNumber_42 (s_X11_in G l e10) t_5_155 t_5_156 t_1_14 t_5_157 m_X11_in ⟨Nat.le_of_ble_eq_true rfl, Nat.le_of_ble_eq_true rfl⟩ ⟨rfl, rfl⟩ ⟨Nat.zero_le _, Nat.zero_le _⟩ rfl (Nat.le_of_ble_eq_true rfl) ?_
      refine r_iconst (v := (3 : Int32)) C dX11_readNumber_45 rfl ?_
      obtain ⟨⟨⟩, σ11, e12, hF⟩ := bd_e hF
      refine r_callV_v (as := [vI r9, vI (3 : Int32)]) (st := []) C dX11_readNumber_46 (s_X11_needs G l e12) rfl rfl rfl t_5_174 t_5_176 t_s_25 t_1_14 t_5_177 m_X11_needs ⟨Nat.le_of_ble_eq_true rfl, Nat.le_of_ble_eq_true rfl⟩ ⟨rfl, rfl⟩ ⟨Nat.zero_le _, Nat.zero_le _⟩ rfl (Nat.le_of_ble_eq_true rfl) ?_
      refine r_drop (ls2 := [(0, vR (40, 0, 0))]) [0] rfl ?_
      exact hk3 _ hF
  refine r_if_ne C 25 dX11_readNumber_4 (by decide)  (fun h20 => ?_) (fun h20 => ?_)
  · have hF := if_f h20 hF
    exact hk1 _ hF
  · have hF := if_t h20 hF
    refine r_aload_n C 0 0 dX11_readNumber_7 rfl rfl ?_
    refine r_aload_n C 0 0 dX11_readNumber_8 rfl rfl ?_
    refine r_getI (kf := 11) C dX11_readNumber_9 rfl rfl f_X11 (by decide) t_5_69 rfl ?_
    refine r_iconst (v := (2 : Int32)) C dX11_readNumber_12 rfl ?_
    obtain ⟨k15, ek15, hF⟩ := nam_e hF
    have hk15 : ∀ (y14 : Int32) (σ16 : St), k15 y14 σ16 = some (r, σ') → Rt G p l e (lvl 2) s m args below meth c 0 0 (MQ below (va_Qi (fun a b => a = r ∧ b = σ') (Wd G) (AG G)) args s 0 0 (AG G)) 4 21 [(0, vR (40, 0, 0)), (1, vI a1), (2, vI a2)] [vI y14, vR (40, 0, 0)] σ16 := by
      intro y14 σ16 hF
      subst ek15
      refine r_iconst (v := (2 : Int32)) C dX11_readNumber_21 rfl ?_
      obtain ⟨⟨⟩, σ17, e18, hF⟩ := bd_e hF
      refine r_callV_v (as := [vI y14, vI (2 : Int32)]) (st := []) C dX11_readNumber_22 (s_X11_needs G l e18) rfl rfl rfl t_5_174 t_5_176 t_s_25 t_1_14 t_5_177 m_X11_needs ⟨Nat.le_of_ble_eq_true rfl, Nat.le_of_ble_eq_true rfl⟩ ⟨rfl, rfl⟩ ⟨Nat.zero_le _, Nat.zero_le _⟩ rfl (Nat.le_of_ble_eq_true rfl) ?_
      exact hk1 _ hF
    refine r_icmp_ne C 20 dX11_readNumber_13 (by decide)  (fun h19 => ?_) (fun h19 => ?_)
    · have hF := if_f h19 hF
      refine r_iconst (v := (0 : Int32)) C dX11_readNumber_20 rfl ?_
      exact hk15 _ _ hF
    · have hF := if_t h19 hF
      refine r_iconst (v := (1 : Int32)) C dX11_readNumber_16 rfl ?_
      refine r_goto C 21 dX11_readNumber_17 (by decide) ?_
      exact hk15 _ _ hF
def F_X11_kindOf (a0 : Int32) (σ : St) : Option (Int32 × St) :=
  (if a0 = (99 : Int32) then some ((7 : Int32), σ) else (if a0 = (101 : Int32) then some ((1 : Int32), σ) else (if a0 = (110 : Int32) then some ((0 : Int32), σ) else (if a0 = (111 : Int32) then some ((6 : Int32), σ) else (if a0 = (112 : Int32) then some ((4 : Int32), σ) else (if a0 = (115 : Int32) then some ((2 : Int32), σ) else (if a0 = (119 : Int32) then some ((3 : Int32), σ) else (if a0 = (120 : Int32) then some ((5 : Int32), σ) else (if a0 = (100 : Int32) then some ((-4 : Int32), σ) else (if a0 = (102 : Int32) then some ((-4 : Int32), σ) else (if a0 = (103 : Int32) then some ((-4 : Int32), σ) else (if a0 = (104 : Int32) then some ((-4 : Int32), σ) else (if a0 = (105 : Int32) then some ((-4 : Int32), σ) else (if a0 = (106 : Int32) then some ((-4 : Int32), σ) else (if a0 = (107 : Int32) then some ((-4 : Int32), σ) else (if a0 = (108 : Int32) then some ((-4 : Int32), σ) else (if a0 = (109 : Int32) then some ((-4 : Int32), σ) else (if a0 = (113 : Int32) then some ((-4 : Int32), σ) else (if a0 = (114 : Int32) then some ((-4 : Int32), σ) else (if a0 = (116 : Int32) then some ((-4 : Int32), σ) else (if a0 = (117 : Int32) then some ((-4 : Int32), σ) else (if a0 = (118 : Int32) then some ((-4 : Int32), σ) else some ((-4 : Int32), σ)))))))))))))))))))))))
set_option maxRecDepth 20000 in
set_option maxHeartbeats 4000000 in
theorem s_X11_kindOf (G : Gx) (l : Launch) {a0 : Int32} {σ σ' : St} {r : Int32} (hF : F_X11_kindOf a0 σ = some (r, σ')) : Sp G l yX11_kindOf cX11_kindOf 1 (some .int) (lvl 0) [vI a0] σ (va_Qi (fun a b => a = r ∧ b = σ') (Wd G) (AG G)) := by
  refine Sp_of (own := RX11) (by decide) rfl (Nat.le_of_ble_eq_true rfl) ?_
  intro p e s m args below meth c C
  show Rt G p l e (lvl 0) s m args below meth c 0 0 (MQ below (va_Qi (fun a b => a = r ∧ b = σ') (Wd G) (AG G)) args s 0 0 (AG G)) 1 0 [(0, vI a0)] [] σ
  unfold F_X11_kindOf at hF
  refine r_iload_n C 0 0 dX11_kindOf_0 rfl rfl ?_
  by_cases h1 : a0 = (99 : Int32)
  · have hF := if_t h1 hF
    refine r_tabIn (off := 118) C 119 dX11_kindOf_1 (by rw [h1]; decide) (by rw [h1]; decide) (by rw [h1]; rfl) (by decide) ?_
    refine r_bipush (v := (7 : Int32)) C dX11_kindOf_119 rfl ?_
    exact r_ireturn C dX11_kindOf_121 (rt_e hF)
  have hF := if_f h1 hF
  by_cases h2 : a0 = (101 : Int32)
  · have hF := if_t h2 hF
    refine r_tabIn (off := 105) C 106 dX11_kindOf_1 (by rw [h2]; decide) (by rw [h2]; decide) (by rw [h2]; rfl) (by decide) ?_
    refine r_iconst (v := (1 : Int32)) C dX11_kindOf_106 rfl ?_
    exact r_ireturn C dX11_kindOf_107 (rt_e hF)
  have hF := if_f h2 hF
  by_cases h3 : a0 = (110 : Int32)
  · have hF := if_t h3 hF
    refine r_tabIn (off := 103) C 104 dX11_kindOf_1 (by rw [h3]; decide) (by rw [h3]; decide) (by rw [h3]; rfl) (by decide) ?_
    refine r_iconst (v := (0 : Int32)) C dX11_kindOf_104 rfl ?_
    exact r_ireturn C dX11_kindOf_105 (rt_e hF)
  have hF := if_f h3 hF
  by_cases h4 : a0 = (111 : Int32)
  · have hF := if_t h4 hF
    refine r_tabIn (off := 115) C 116 dX11_kindOf_1 (by rw [h4]; decide) (by rw [h4]; decide) (by rw [h4]; rfl) (by decide) ?_
    refine r_bipush (v := (6 : Int32)) C dX11_kindOf_116 rfl ?_
    exact r_ireturn C dX11_kindOf_118 (rt_e hF)
  have hF := if_f h4 hF
  by_cases h5 : a0 = (112 : Int32)
  · have hF := if_t h5 hF
    refine r_tabIn (off := 111) C 112 dX11_kindOf_1 (by rw [h5]; decide) (by rw [h5]; decide) (by rw [h5]; rfl) (by decide) ?_
    refine r_iconst (v := (4 : Int32)) C dX11_kindOf_112 rfl ?_
    exact r_ireturn C dX11_kindOf_113 (rt_e hF)
  have hF := if_f h5 hF
  by_cases h6 : a0 = (115 : Int32)
  · have hF := if_t h6 hF
    refine r_tabIn (off := 107) C 108 dX11_kindOf_1 (by rw [h6]; decide) (by rw [h6]; decide) (by rw [h6]; rfl) (by decide) ?_
    refine r_iconst (v := (2 : Int32)) C dX11_kindOf_108 rfl ?_
    exact r_ireturn C dX11_kindOf_109 (rt_e hF)
  have hF := if_f h6 hF
  by_cases h7 : a0 = (119 : Int32)
  · have hF := if_t h7 hF
    refine r_tabIn (off := 109) C 110 dX11_kindOf_1 (by rw [h7]; decide) (by rw [h7]; decide) (by rw [h7]; rfl) (by decide) ?_
    refine r_iconst (v := (3 : Int32)) C dX11_kindOf_110 rfl ?_
    exact r_ireturn C dX11_kindOf_111 (rt_e hF)
  have hF := if_f h7 hF
  by_cases h8 : a0 = (120 : Int32)
  · have hF := if_t h8 hF
    refine r_tabIn (off := 113) C 114 dX11_kindOf_1 (by rw [h8]; decide) (by rw [h8]; decide) (by rw [h8]; rfl) (by decide) ?_
    refine r_iconst (v := (5 : Int32)) C dX11_kindOf_114 rfl ?_
    exact r_ireturn C dX11_kindOf_115 (rt_e hF)
  have hF := if_f h8 hF
  by_cases h9 : a0 = (100 : Int32)
  · have hF := if_t h9 hF
    refine r_tabIn (off := 121) C 122 dX11_kindOf_1 (by rw [h9]; decide) (by rw [h9]; decide) (by rw [h9]; rfl) (by decide) ?_
    refine r_bipush (v := (-4 : Int32)) C dX11_kindOf_122 rfl ?_
    exact r_ireturn C dX11_kindOf_124 (rt_e hF)
  have hF := if_f h9 hF
  by_cases h10 : a0 = (102 : Int32)
  · have hF := if_t h10 hF
    refine r_tabIn (off := 121) C 122 dX11_kindOf_1 (by rw [h10]; decide) (by rw [h10]; decide) (by rw [h10]; rfl) (by decide) ?_
    refine r_bipush (v := (-4 : Int32)) C dX11_kindOf_122 rfl ?_
    exact r_ireturn C dX11_kindOf_124 (rt_e hF)
  have hF := if_f h10 hF
  by_cases h11 : a0 = (103 : Int32)
  · have hF := if_t h11 hF
    refine r_tabIn (off := 121) C 122 dX11_kindOf_1 (by rw [h11]; decide) (by rw [h11]; decide) (by rw [h11]; rfl) (by decide) ?_
    refine r_bipush (v := (-4 : Int32)) C dX11_kindOf_122 rfl ?_
    exact r_ireturn C dX11_kindOf_124 (rt_e hF)
  have hF := if_f h11 hF
  by_cases h12 : a0 = (104 : Int32)
  · have hF := if_t h12 hF
    refine r_tabIn (off := 121) C 122 dX11_kindOf_1 (by rw [h12]; decide) (by rw [h12]; decide) (by rw [h12]; rfl) (by decide) ?_
    refine r_bipush (v := (-4 : Int32)) C dX11_kindOf_122 rfl ?_
    exact r_ireturn C dX11_kindOf_124 (rt_e hF)
  have hF := if_f h12 hF
  by_cases h13 : a0 = (105 : Int32)
  · have hF := if_t h13 hF
    refine r_tabIn (off := 121) C 122 dX11_kindOf_1 (by rw [h13]; decide) (by rw [h13]; decide) (by rw [h13]; rfl) (by decide) ?_
    refine r_bipush (v := (-4 : Int32)) C dX11_kindOf_122 rfl ?_
    exact r_ireturn C dX11_kindOf_124 (rt_e hF)
  have hF := if_f h13 hF
  by_cases h14 : a0 = (106 : Int32)
  · have hF := if_t h14 hF
    refine r_tabIn (off := 121) C 122 dX11_kindOf_1 (by rw [h14]; decide) (by rw [h14]; decide) (by rw [h14]; rfl) (by decide) ?_
    refine r_bipush (v := (-4 : Int32)) C dX11_kindOf_122 rfl ?_
    exact r_ireturn C dX11_kindOf_124 (rt_e hF)
  have hF := if_f h14 hF
  by_cases h15 : a0 = (107 : Int32)
  · have hF := if_t h15 hF
    refine r_tabIn (off := 121) C 122 dX11_kindOf_1 (by rw [h15]; decide) (by rw [h15]; decide) (by rw [h15]; rfl) (by decide) ?_
    refine r_bipush (v := (-4 : Int32)) C dX11_kindOf_122 rfl ?_
    exact r_ireturn C dX11_kindOf_124 (rt_e hF)
  have hF := if_f h15 hF
  by_cases h16 : a0 = (108 : Int32)
  · have hF := if_t h16 hF
    refine r_tabIn (off := 121) C 122 dX11_kindOf_1 (by rw [h16]; decide) (by rw [h16]; decide) (by rw [h16]; rfl) (by decide) ?_
    refine r_bipush (v := (-4 : Int32)) C dX11_kindOf_122 rfl ?_
    exact r_ireturn C dX11_kindOf_124 (rt_e hF)
  have hF := if_f h16 hF
  by_cases h17 : a0 = (109 : Int32)
  · have hF := if_t h17 hF
    refine r_tabIn (off := 121) C 122 dX11_kindOf_1 (by rw [h17]; decide) (by rw [h17]; decide) (by rw [h17]; rfl) (by decide) ?_
    refine r_bipush (v := (-4 : Int32)) C dX11_kindOf_122 rfl ?_
    exact r_ireturn C dX11_kindOf_124 (rt_e hF)
  have hF := if_f h17 hF
  by_cases h18 : a0 = (113 : Int32)
  · have hF := if_t h18 hF
    refine r_tabIn (off := 121) C 122 dX11_kindOf_1 (by rw [h18]; decide) (by rw [h18]; decide) (by rw [h18]; rfl) (by decide) ?_
    refine r_bipush (v := (-4 : Int32)) C dX11_kindOf_122 rfl ?_
    exact r_ireturn C dX11_kindOf_124 (rt_e hF)
  have hF := if_f h18 hF
  by_cases h19 : a0 = (114 : Int32)
  · have hF := if_t h19 hF
    refine r_tabIn (off := 121) C 122 dX11_kindOf_1 (by rw [h19]; decide) (by rw [h19]; decide) (by rw [h19]; rfl) (by decide) ?_
    refine r_bipush (v := (-4 : Int32)) C dX11_kindOf_122 rfl ?_
    exact r_ireturn C dX11_kindOf_124 (rt_e hF)
  have hF := if_f h19 hF
  by_cases h20 : a0 = (116 : Int32)
  · have hF := if_t h20 hF
    refine r_tabIn (off := 121) C 122 dX11_kindOf_1 (by rw [h20]; decide) (by rw [h20]; decide) (by rw [h20]; rfl) (by decide) ?_
    refine r_bipush (v := (-4 : Int32)) C dX11_kindOf_122 rfl ?_
    exact r_ireturn C dX11_kindOf_124 (rt_e hF)
  have hF := if_f h20 hF
  by_cases h21 : a0 = (117 : Int32)
  · have hF := if_t h21 hF
    refine r_tabIn (off := 121) C 122 dX11_kindOf_1 (by rw [h21]; decide) (by rw [h21]; decide) (by rw [h21]; rfl) (by decide) ?_
    refine r_bipush (v := (-4 : Int32)) C dX11_kindOf_122 rfl ?_
    exact r_ireturn C dX11_kindOf_124 (rt_e hF)
  have hF := if_f h21 hF
  by_cases h22 : a0 = (118 : Int32)
  · have hF := if_t h22 hF
    refine r_tabIn (off := 121) C 122 dX11_kindOf_1 (by rw [h22]; decide) (by rw [h22]; decide) (by rw [h22]; rfl) (by decide) ?_
    refine r_bipush (v := (-4 : Int32)) C dX11_kindOf_122 rfl ?_
    exact r_ireturn C dX11_kindOf_124 (rt_e hF)
  have hF := if_f h22 hF
  refine r_tabOut C 122 dX11_kindOf_1 (by have u0 := lv_neT h1 (a := 99) rfl; have u1 := lv_neT h2 (a := 101) rfl; have u2 := lv_neT h3 (a := 110) rfl; have u3 := lv_neT h4 (a := 111) rfl; have u4 := lv_neT h5 (a := 112) rfl; have u5 := lv_neT h6 (a := 115) rfl; have u6 := lv_neT h7 (a := 119) rfl; have u7 := lv_neT h8 (a := 120) rfl; have u8 := lv_neT h9 (a := 100) rfl; have u9 := lv_neT h10 (a := 102) rfl; have u10 := lv_neT h11 (a := 103) rfl; have u11 := lv_neT h12 (a := 104) rfl; have u12 := lv_neT h13 (a := 105) rfl; have u13 := lv_neT h14 (a := 106) rfl; have u14 := lv_neT h15 (a := 107) rfl; have u15 := lv_neT h16 (a := 108) rfl; have u16 := lv_neT h17 (a := 109) rfl; have u17 := lv_neT h18 (a := 113) rfl; have u18 := lv_neT h19 (a := 114) rfl; have u19 := lv_neT h20 (a := 116) rfl; have u20 := lv_neT h21 (a := 117) rfl; have u21 := lv_neT h22 (a := 118) rfl; omega) (by decide) ?_
  refine r_bipush (v := (-4 : Int32)) C dX11_kindOf_122 rfl ?_
  exact r_ireturn C dX11_kindOf_124 (rt_e hF)
def L_X11_readRow_58  : Nat → Int32 → St → (St → Option (Unit × St)) → Option (Unit × St)
  | 0, _, _, _ => none
  | n + 1, v1, τ, kx132 =>
  (if (12 : Int32) ≤ v1 then kx132  τ else (if (τ.1 (40, 0, 0) 13) = 0 then bd (F_X11_look ((τ.1 (40, 0, 0) 10) + v1) τ) fun r6 σ5 => bd (F_X11_kindOf r6 σ5) fun r9 σ8 => nam (fun (y11 : Int32) (σ13 : St) => bd (F_X11_needs y11 (3 : Int32) σ13) fun _ σ14 => nam (fun (y16 : Int32) (σ18 : St) => ck (inb (((12 : Int32) * (σ14.1 (40, 0, 0) 5)) + v1) 96) (nam (uI σ18 (46, 0, 0) ((((12 : Int32) * (σ14.1 (40, 0, 0) 5)) + v1).toNatClampNeg) y16) fun σ20 => nam (v1 + (1 : Int32)) fun x21 => L_X11_readRow_58 n x21 σ20 kx132)) fun k17 => (if r9 = (-4 : Int32) then k17 (4 : Int32) σ14 else k17 r9 σ14)) fun k12 => (if r9 = (-4 : Int32) then k12 (0 : Int32) σ8 else k12 (1 : Int32) σ8) else kx132  τ))
def F_X11_readRow  (σ : St) : Option (Unit × St) :=
  nam (fun  (σ2 : St) => nam (fun  (σ4 : St) => L_X11_readRow_58  FU (0 : Int32) σ4 (fun  (σ26 : St) => nam (fun (y27 : Int32) (σ29 : St) => bd (F_X11_flag y27 σ29) fun r31 σ30 => nam (uI σ30 (40, 0, 0) 5 ((σ26.1 (40, 0, 0) 5) + r31)) fun σ33 => bd (F_X11_next  σ33) fun _ σ34 => some ((), σ34)) fun k28 => (if (σ26.1 (40, 0, 0) 13) = 0 then k28 (1 : Int32) σ26 else k28 (0 : Int32) σ26))) fun k3 => (if (σ2.1 (40, 0, 0) 13) = 0 then nam (fun (y37 : Int32) (σ39 : St) => bd (F_X11_needs y37 (3 : Int32) σ39) fun _ σ40 => k3  σ40) fun k38 => (if ((σ2.1 (40, 0, 0) 9) - (σ2.1 (40, 0, 0) 10)) = (12 : Int32) then k38 (1 : Int32) σ2 else k38 (0 : Int32) σ2) else k3  σ2)) fun k1 => (if (σ.1 (40, 0, 0) 13) = 0 then nam (fun (y44 : Int32) (σ46 : St) => bd (F_X11_needs y44 (2 : Int32) σ46) fun _ σ47 => k1  σ47) fun k45 => (if (σ.1 (40, 0, 0) 11) = (1 : Int32) then k45 (1 : Int32) σ else k45 (0 : Int32) σ) else k1  σ)
set_option maxRecDepth 20000 in
set_option maxHeartbeats 4000000 in
theorem l_X11_readRow_58 {G : Gx} {p : Program} {l : Launch} {e : Env} {s : State} {m : MethodId} {args : Array Value} {below : List Frame} {meth : Method} {c : Code} (C : Cx G p s m args meth c none 3 RX11 cX11_readRow)  {σ' : St}  (kx132 : St → Option (Unit × St)) (hkx132 : ∀  (τ : St), kx132  τ = some ((), σ') → Rt G p l e (lvl 2) s m args below meth c 0 0 (MQ below (va_Qv (fun b => b = σ') (Wd G) (AG G)) args s 0 0 (AG G)) 3 132 [(0, vR (40, 0, 0))] [] τ) : ∀ (n : Nat) (v1 : Int32) (τ : St), L_X11_readRow_58  n v1 τ kx132 = some ((), σ') → Rt G p l e (lvl 2) s m args below meth c 0 0 (MQ below (va_Qv (fun b => b = σ') (Wd G) (AG G)) args s 0 0 (AG G)) 3 58 [(0, vR (40, 0, 0)), (1, vI v1)] [] τ := by
  intro n
  induction n with
  | zero => intro v1 τ hF; cases hF
  | succ n ih =>
    intro v1 τ hF
    unfold L_X11_readRow_58 at hF
    refine r_iload_n C 1 1 dX11_readRow_58 rfl rfl ?_
    refine r_bipush (v := (12 : Int32)) C dX11_readRow_59 rfl ?_
    refine r_icmp_ge C 132 dX11_readRow_61 (by decide)  (fun h25 => ?_) (fun h25 => ?_)
    · have hF := if_t h25 hF
      refine r_drop (ls2 := [(0, vR (40, 0, 0))]) [0] rfl ?_
      exact hkx132 _ hF
    · have hF := if_f h25 hF
      refine r_aload_n C 0 0 dX11_readRow_64 rfl rfl ?_
      refine r_getI (kf := 13) C dX11_readRow_65 rfl rfl f_X11 (by decide) t_5_71 rfl ?_
      refine r_if_ne C 132 dX11_readRow_68 (by decide)  (fun h24 => ?_) (fun h24 => ?_)
      · have hF := if_f h24 hF
        refine r_drop (ls2 := [(0, vR (40, 0, 0))]) [0] rfl ?_
        exact hkx132 _ hF
      · have hF := if_t h24 hF
        refine r_aload_n C 0 0 dX11_readRow_71 rfl rfl ?_
        refine r_aload_n C 0 0 dX11_readRow_72 rfl rfl ?_
        refine r_getI (kf := 10) C dX11_readRow_73 rfl rfl f_X11 (by decide) t_5_68 rfl ?_
        refine r_iload_n C 1 1 dX11_readRow_76 rfl rfl ?_
        refine r_iadd C dX11_readRow_77 ?_
        obtain ⟨r6, σ5, e7, hF⟩ := bd_e hF
        refine r_callV_i (as := [vI ((τ.1 (40, 0, 0) 10) + v1)]) (st := []) C dX11_readRow_78 (s_X11_look G l e7) rfl rfl rfl t_5_166 t_5_168 t_s_24 t_1_14 t_5_169 m_X11_look ⟨Nat.le_of_ble_eq_true rfl, Nat.le_of_ble_eq_true rfl⟩ ⟨rfl, rfl⟩ ⟨Nat.zero_le _, Nat.zero_le _⟩ rfl (Nat.le_of_ble_eq_true rfl) ?_
        obtain ⟨r9, σ8, e10, hF⟩ := bd_e hF
        refine r_callS_i (as := [vI r6]) (st := []) C dX11_readRow_81 (s_X11_kindOf G l e10) t_5_194 t_5_195 t_1_14 t_5_196 m_X11_kindOf ⟨Nat.le_of_ble_eq_true rfl, Nat.le_of_ble_eq_true rfl⟩ ⟨rfl, rfl⟩ ⟨Nat.zero_le _, Nat.zero_le _⟩ rfl (Nat.le_of_ble_eq_true rfl) ?_
        refine r_istore_n (ls2 := [(2, vI r9), (0, vR (40, 0, 0)), (1, vI v1)]) C dX11_readRow_84 2 rfl (by decide) rfl ?_
        refine r_aload_n C 1 0 dX11_readRow_85 rfl rfl ?_
        refine r_iload_n C 0 2 dX11_readRow_86 rfl rfl ?_
        refine r_bipush (v := (-4 : Int32)) C dX11_readRow_87 rfl ?_
        obtain ⟨k12, ek12, hF⟩ := nam_e hF
        have hk12 : ∀ (y11 : Int32) (σ13 : St), k12 y11 σ13 = some ((), σ') → Rt G p l e (lvl 2) s m args below meth c 0 0 (MQ below (va_Qv (fun b => b = σ') (Wd G) (AG G)) args s 0 0 (AG G)) 3 97 [(0, vR (40, 0, 0)), (1, vI v1), (2, vI r9)] [vI y11, vR (40, 0, 0)] σ13 := by
          intro y11 σ13 hF
          subst ek12
          refine r_iconst (v := (3 : Int32)) C dX11_readRow_97 rfl ?_
          obtain ⟨⟨⟩, σ14, e15, hF⟩ := bd_e hF
          refine r_callV_v (as := [vI y11, vI (3 : Int32)]) (st := []) C dX11_readRow_98 (s_X11_needs G l e15) rfl rfl rfl t_5_174 t_5_176 t_s_25 t_1_14 t_5_177 m_X11_needs ⟨Nat.le_of_ble_eq_true rfl, Nat.le_of_ble_eq_true rfl⟩ ⟨rfl, rfl⟩ ⟨Nat.zero_le _, Nat.zero_le _⟩ rfl (Nat.le_of_ble_eq_true rfl) ?_
          refine r_aload_n C 0 0 dX11_readRow_101 rfl rfl ?_
          refine r_getR (kf := 6) (d2 := (46, 0, 0)) C dX11_readRow_102 rfl rfl f_X11 (by decide) t_5_64 rfl rfl ?_
          refine r_bipush (v := (12 : Int32)) C dX11_readRow_105 rfl ?_
          refine r_aload_n C 0 0 dX11_readRow_107 rfl rfl ?_
          refine r_getI (kf := 5) C dX11_readRow_108 rfl rfl f_X11 (by decide) t_5_63 rfl ?_
          refine r_imul C dX11_readRow_111 ?_
          refine r_iload_n C 1 1 dX11_readRow_112 rfl rfl ?_
          refine r_iadd C dX11_readRow_113 ?_
          refine r_iload_n C 2 2 dX11_readRow_114 rfl rfl ?_
          refine r_bipush (v := (-4 : Int32)) C dX11_readRow_115 rfl ?_
          obtain ⟨k17, ek17, hF⟩ := nam_e hF
          have hk17 : ∀ (y16 : Int32) (σ18 : St), k17 y16 σ18 = some ((), σ') → Rt G p l e (lvl 2) s m args below meth c 0 0 (MQ below (va_Qv (fun b => b = σ') (Wd G) (AG G)) args s 0 0 (AG G)) 3 125 [(0, vR (40, 0, 0)), (1, vI v1)] [vI y16, vI (((12 : Int32) * (σ14.1 (40, 0, 0) 5)) + v1), vR (46, 0, 0)] σ18 := by
            intro y16 σ18 hF
            subst ek17
            obtain ⟨h19, hF⟩ := ck_e hF
            obtain ⟨σ20, eσ20, hF⟩ := nam_e hF
            refine r_iastore C ((((12 : Int32) * (σ14.1 (40, 0, 0) 5)) + v1).toNatClampNeg) dX11_readRow_125 rfl h19 rfl eσ20 ?_
            obtain ⟨x21, ex21, hF⟩ := nam_e hF
            refine r_iinc (v := x21) (ls2 := [(1, vI x21), (0, vR (40, 0, 0))]) C 1 dX11_readRow_126 rfl ex21.symm (by decide) rfl ?_
            refine r_goto C 58 dX11_readRow_129 (by decide) ?_
            refine r_drop (ls2 := [(0, vR (40, 0, 0)), (1, vI x21)]) [1, 0] rfl ?_
            exact ih _ _ hF
          refine r_icmp_ne C 124 dX11_readRow_117 (by decide)  (fun h22 => ?_) (fun h22 => ?_)
          · have hF := if_f h22 hF
            refine r_iload_n C 2 2 dX11_readRow_124 rfl rfl ?_
            refine r_drop (ls2 := [(0, vR (40, 0, 0)), (1, vI v1)]) [0, 1] rfl ?_
            exact hk17 _ _ hF
          · have hF := if_t h22 hF
            refine r_iconst (v := (4 : Int32)) C dX11_readRow_120 rfl ?_
            refine r_goto C 125 dX11_readRow_121 (by decide) ?_
            refine r_drop (ls2 := [(0, vR (40, 0, 0)), (1, vI v1)]) [0, 1] rfl ?_
            exact hk17 _ _ hF
        refine r_icmp_eq C 96 dX11_readRow_89 (by decide)  (fun h23 => ?_) (fun h23 => ?_)
        · have hF := if_t h23 hF
          refine r_iconst (v := (0 : Int32)) C dX11_readRow_96 rfl ?_
          refine r_drop (ls2 := [(0, vR (40, 0, 0)), (1, vI v1), (2, vI r9)]) [1, 2, 0] rfl ?_
          exact hk12 _ _ hF
        · have hF := if_f h23 hF
          refine r_iconst (v := (1 : Int32)) C dX11_readRow_92 rfl ?_
          refine r_goto C 97 dX11_readRow_93 (by decide) ?_
          refine r_drop (ls2 := [(0, vR (40, 0, 0)), (1, vI v1), (2, vI r9)]) [1, 2, 0] rfl ?_
          exact hk12 _ _ hF
set_option maxRecDepth 20000 in
set_option maxHeartbeats 4000000 in
theorem s_X11_readRow (G : Gx) (l : Launch)  {σ σ' : St}  (hF : F_X11_readRow  σ = some ((), σ')) : Sp G l yX11_readRow cX11_readRow 3 none (lvl 2) [vR (40, 0, 0)] σ (va_Qv (fun b => b = σ') (Wd G) (AG G)) := by
  refine Sp_of (own := RX11) (by decide) rfl (Nat.le_of_ble_eq_true rfl) ?_
  intro p e s m args below meth c C
  show Rt G p l e (lvl 2) s m args below meth c 0 0 (MQ below (va_Qv (fun b => b = σ') (Wd G) (AG G)) args s 0 0 (AG G)) 3 0 [(0, vR (40, 0, 0))] [] σ
  unfold F_X11_readRow at hF
  refine r_aload_n C 0 0 dX11_readRow_0 rfl rfl ?_
  refine r_getI (kf := 13) C dX11_readRow_1 rfl rfl f_X11 (by decide) t_5_71 rfl ?_
  obtain ⟨k1, ek1, hF⟩ := nam_e hF
  have hk1 : ∀  (σ2 : St), k1  σ2 = some ((), σ') → Rt G p l e (lvl 2) s m args below meth c 0 0 (MQ below (va_Qv (fun b => b = σ') (Wd G) (AG G)) args s 0 0 (AG G)) 3 25 [(0, vR (40, 0, 0))] [] σ2 := by
    intro  σ2 hF
    subst ek1
    refine r_aload_n C 0 0 dX11_readRow_25 rfl rfl ?_
    refine r_getI (kf := 13) C dX11_readRow_26 rfl rfl f_X11 (by decide) t_5_71 rfl ?_
    obtain ⟨k3, ek3, hF⟩ := nam_e hF
    have hk3 : ∀  (σ4 : St), k3  σ4 = some ((), σ') → Rt G p l e (lvl 2) s m args below meth c 0 0 (MQ below (va_Qv (fun b => b = σ') (Wd G) (AG G)) args s 0 0 (AG G)) 3 56 [(0, vR (40, 0, 0))] [] σ4 := by
      intro  σ4 hF
      subst ek3
      refine r_iconst (v := (0 : Int32)) C dX11_readRow_56 rfl ?_
      refine r_istore_n (ls2 := [(1, vI (0 : Int32)), (0, vR (40, 0, 0))]) C dX11_readRow_57 1 rfl (by decide) rfl ?_
      refine r_drop (ls2 := [(0, vR (40, 0, 0)), (1, vI (0 : Int32))]) [1, 0] rfl ?_
      refine l_X11_readRow_58 C  _ ?_ _ _ _ hF
      · intro  σ26 hF
        refine r_aload_n C 0 0 dX11_readRow_132 rfl rfl ?_
        refine r_dup_r C dX11_readRow_133 ?_
        refine r_getI (kf := 5) C dX11_readRow_134 rfl rfl f_X11 (by decide) t_5_63 rfl ?_
        refine r_aload_n C 0 0 dX11_readRow_137 rfl rfl ?_
        refine r_getI (kf := 13) C dX11_readRow_138 rfl rfl f_X11 (by decide) t_5_71 rfl ?_
        obtain ⟨k28, ek28, hF⟩ := nam_e hF
        have hk28 : ∀ (y27 : Int32) (σ29 : St), k28 y27 σ29 = some ((), σ') → Rt G p l e (lvl 2) s m args below meth c 0 0 (MQ below (va_Qv (fun b => b = σ') (Wd G) (AG G)) args s 0 0 (AG G)) 3 149 [(0, vR (40, 0, 0))] [vI y27, vI (σ26.1 (40, 0, 0) 5), vR (40, 0, 0)] σ29 := by
          intro y27 σ29 hF
          subst ek28
          obtain ⟨r31, σ30, e32, hF⟩ := bd_e hF
          refine r_callS_i (as := [vI y27]) (st := [vI (σ26.1 (40, 0, 0) 5), vR (40, 0, 0)]) C dX11_readRow_149 (s_X11_flag G l e32) t_5_197 t_5_198 t_1_14 t_5_199 m_X11_flag ⟨Nat.le_of_ble_eq_true rfl, Nat.le_of_ble_eq_true rfl⟩ ⟨rfl, rfl⟩ ⟨Nat.zero_le _, Nat.zero_le _⟩ rfl (Nat.le_of_ble_eq_true rfl) ?_
          refine r_iadd C dX11_readRow_152 ?_
          obtain ⟨σ33, eσ33, hF⟩ := nam_e hF
          refine r_put (kf := 5) (ty0 := tyX11) C dX11_readRow_153 rfl rfl f_X11 tyX11_ok nmX11 (by decide) t_5_63 rfl rfl rfl rfl eσ33 ?_
          refine r_aload_n C 0 0 dX11_readRow_156 rfl rfl ?_
          obtain ⟨⟨⟩, σ34, e35, hF⟩ := bd_e hF
          refine r_callV_v (as := []) (st := []) C dX11_readRow_157 (s_X11_next G l e35) rfl rfl rfl t_5_162 t_5_164 t_s_23 t_1_14 t_5_165 m_X11_next ⟨Nat.le_of_ble_eq_true rfl, Nat.le_of_ble_eq_true rfl⟩ ⟨rfl, rfl⟩ ⟨Nat.zero_le _, Nat.zero_le _⟩ rfl (Nat.le_of_ble_eq_true rfl) ?_
          exact r_return C dX11_readRow_160 (rv_e hF)
        refine r_if_ne C 148 dX11_readRow_141 (by decide)  (fun h36 => ?_) (fun h36 => ?_)
        · have hF := if_f h36 hF
          refine r_iconst (v := (0 : Int32)) C dX11_readRow_148 rfl ?_
          exact hk28 _ _ hF
        · have hF := if_t h36 hF
          refine r_iconst (v := (1 : Int32)) C dX11_readRow_144 rfl ?_
          refine r_goto C 149 dX11_readRow_145 (by decide) ?_
          exact hk28 _ _ hF
    refine r_if_ne C 56 dX11_readRow_29 (by decide)  (fun h43 => ?_) (fun h43 => ?_)
    · have hF := if_f h43 hF
      exact hk3 _ hF
    · have hF := if_t h43 hF
      refine r_aload_n C 0 0 dX11_readRow_32 rfl rfl ?_
      refine r_aload_n C 0 0 dX11_readRow_33 rfl rfl ?_
      refine r_getI (kf := 9) C dX11_readRow_34 rfl rfl f_X11 (by decide) t_5_67 rfl ?_
      refine r_aload_n C 0 0 dX11_readRow_37 rfl rfl ?_
      refine r_getI (kf := 10) C dX11_readRow_38 rfl rfl f_X11 (by decide) t_5_68 rfl ?_
      refine r_isub C dX11_readRow_41 ?_
      refine r_bipush (v := (12 : Int32)) C dX11_readRow_42 rfl ?_
      obtain ⟨k38, ek38, hF⟩ := nam_e hF
      have hk38 : ∀ (y37 : Int32) (σ39 : St), k38 y37 σ39 = some ((), σ') → Rt G p l e (lvl 2) s m args below meth c 0 0 (MQ below (va_Qv (fun b => b = σ') (Wd G) (AG G)) args s 0 0 (AG G)) 3 52 [(0, vR (40, 0, 0))] [vI y37, vR (40, 0, 0)] σ39 := by
        intro y37 σ39 hF
        subst ek38
        refine r_iconst (v := (3 : Int32)) C dX11_readRow_52 rfl ?_
        obtain ⟨⟨⟩, σ40, e41, hF⟩ := bd_e hF
        refine r_callV_v (as := [vI y37, vI (3 : Int32)]) (st := []) C dX11_readRow_53 (s_X11_needs G l e41) rfl rfl rfl t_5_174 t_5_176 t_s_25 t_1_14 t_5_177 m_X11_needs ⟨Nat.le_of_ble_eq_true rfl, Nat.le_of_ble_eq_true rfl⟩ ⟨rfl, rfl⟩ ⟨Nat.zero_le _, Nat.zero_le _⟩ rfl (Nat.le_of_ble_eq_true rfl) ?_
        exact hk3 _ hF
      refine r_icmp_ne C 51 dX11_readRow_44 (by decide)  (fun h42 => ?_) (fun h42 => ?_)
      · have hF := if_f h42 hF
        refine r_iconst (v := (0 : Int32)) C dX11_readRow_51 rfl ?_
        exact hk38 _ _ hF
      · have hF := if_t h42 hF
        refine r_iconst (v := (1 : Int32)) C dX11_readRow_47 rfl ?_
        refine r_goto C 52 dX11_readRow_48 (by decide) ?_
        exact hk38 _ _ hF
  refine r_if_ne C 25 dX11_readRow_4 (by decide)  (fun h50 => ?_) (fun h50 => ?_)
  · have hF := if_f h50 hF
    exact hk1 _ hF
  · have hF := if_t h50 hF
    refine r_aload_n C 0 0 dX11_readRow_7 rfl rfl ?_
    refine r_aload_n C 0 0 dX11_readRow_8 rfl rfl ?_
    refine r_getI (kf := 11) C dX11_readRow_9 rfl rfl f_X11 (by decide) t_5_69 rfl ?_
    refine r_iconst (v := (1 : Int32)) C dX11_readRow_12 rfl ?_
    obtain ⟨k45, ek45, hF⟩ := nam_e hF
    have hk45 : ∀ (y44 : Int32) (σ46 : St), k45 y44 σ46 = some ((), σ') → Rt G p l e (lvl 2) s m args below meth c 0 0 (MQ below (va_Qv (fun b => b = σ') (Wd G) (AG G)) args s 0 0 (AG G)) 3 21 [(0, vR (40, 0, 0))] [vI y44, vR (40, 0, 0)] σ46 := by
      intro y44 σ46 hF
      subst ek45
      refine r_iconst (v := (2 : Int32)) C dX11_readRow_21 rfl ?_
      obtain ⟨⟨⟩, σ47, e48, hF⟩ := bd_e hF
      refine r_callV_v (as := [vI y44, vI (2 : Int32)]) (st := []) C dX11_readRow_22 (s_X11_needs G l e48) rfl rfl rfl t_5_174 t_5_176 t_s_25 t_1_14 t_5_177 m_X11_needs ⟨Nat.le_of_ble_eq_true rfl, Nat.le_of_ble_eq_true rfl⟩ ⟨rfl, rfl⟩ ⟨Nat.zero_le _, Nat.zero_le _⟩ rfl (Nat.le_of_ble_eq_true rfl) ?_
      exact hk1 _ hF
    refine r_icmp_ne C 20 dX11_readRow_13 (by decide)  (fun h49 => ?_) (fun h49 => ?_)
    · have hF := if_f h49 hF
      refine r_iconst (v := (0 : Int32)) C dX11_readRow_20 rfl ?_
      exact hk45 _ _ hF
    · have hF := if_t h49 hF
      refine r_iconst (v := (1 : Int32)) C dX11_readRow_16 rfl ?_
      refine r_goto C 21 dX11_readRow_17 (by decide) ?_
      exact hk45 _ _ hF
def F_X11_lowest (a1 : Int32) (σ : St) : Option (Int32 × St) :=
  (if a1 = (1 : Int32) then some ((0 : Int32), σ) else (if a1 = (4 : Int32) then some ((0 : Int32), σ) else (if a1 = (8 : Int32) then some ((0 : Int32), σ) else some ((1 : Int32), σ))))
set_option maxRecDepth 20000 in
set_option maxHeartbeats 4000000 in
theorem s_X11_lowest (G : Gx) (l : Launch) {a1 : Int32} {σ σ' : St} {r : Int32} (hF : F_X11_lowest a1 σ = some (r, σ')) : Sp G l yX11_lowest cX11_lowest 2 (some .int) (lvl 0) [vR (40, 0, 0), vI a1] σ (va_Qi (fun a b => a = r ∧ b = σ') (Wd G) (AG G)) := by
  refine Sp_of (own := RX11) (by decide) rfl (Nat.le_of_ble_eq_true rfl) ?_
  intro p e s m args below meth c C
  show Rt G p l e (lvl 0) s m args below meth c 0 0 (MQ below (va_Qi (fun a b => a = r ∧ b = σ') (Wd G) (AG G)) args s 0 0 (AG G)) 2 0 [(0, vR (40, 0, 0)), (1, vI a1)] [] σ
  unfold F_X11_lowest at hF
  refine r_iload_n C 1 1 dX11_lowest_0 rfl rfl ?_
  refine r_iconst (v := (1 : Int32)) C dX11_lowest_1 rfl ?_
  refine r_icmp_eq C 16 dX11_lowest_2 (by decide)  (fun h3 => ?_) (fun h3 => ?_)
  · have hF := if_t h3 hF
    refine r_iconst (v := (0 : Int32)) C dX11_lowest_16 rfl ?_
    refine r_goto C 21 dX11_lowest_17 (by decide) ?_
    exact r_ireturn C dX11_lowest_21 (rt_e hF)
  · have hF := if_f h3 hF
    refine r_iload_n C 1 1 dX11_lowest_5 rfl rfl ?_
    refine r_iconst (v := (4 : Int32)) C dX11_lowest_6 rfl ?_
    refine r_icmp_eq C 16 dX11_lowest_7 (by decide)  (fun h2 => ?_) (fun h2 => ?_)
    · have hF := if_t h2 hF
      refine r_iconst (v := (0 : Int32)) C dX11_lowest_16 rfl ?_
      refine r_goto C 21 dX11_lowest_17 (by decide) ?_
      exact r_ireturn C dX11_lowest_21 (rt_e hF)
    · have hF := if_f h2 hF
      refine r_iload_n C 1 1 dX11_lowest_10 rfl rfl ?_
      refine r_bipush (v := (8 : Int32)) C dX11_lowest_11 rfl ?_
      refine r_icmp_ne C 20 dX11_lowest_13 (by decide)  (fun h1 => ?_) (fun h1 => ?_)
      · have hF := if_f h1 hF
        refine r_iconst (v := (1 : Int32)) C dX11_lowest_20 rfl ?_
        exact r_ireturn C dX11_lowest_21 (rt_e hF)
      · have hF := if_t h1 hF
        refine r_iconst (v := (0 : Int32)) C dX11_lowest_16 rfl ?_
        refine r_goto C 21 dX11_lowest_17 (by decide) ?_
        exact r_ireturn C dX11_lowest_21 (rt_e hF)
def F_X11_highest (a1 : Int32) (σ : St) : Option (Int32 × St) :=
  (if a1 = (2 : Int32) then some ((60 : Int32), σ) else (if a1 = (8 : Int32) then some ((60 : Int32), σ) else (if a1 = (4 : Int32) then some ((9 : Int32), σ) else (if a1 = (7 : Int32) then some ((9 : Int32), σ) else (if a1 = (6 : Int32) then some ((50 : Int32), σ) else some ((99 : Int32), σ))))))
set_option maxRecDepth 20000 in
set_option maxHeartbeats 4000000 in
theorem s_X11_highest (G : Gx) (l : Launch) {a1 : Int32} {σ σ' : St} {r : Int32} (hF : F_X11_highest a1 σ = some (r, σ')) : Sp G l yX11_highest cX11_highest 2 (some .int) (lvl 0) [vR (40, 0, 0), vI a1] σ (va_Qi (fun a b => a = r ∧ b = σ') (Wd G) (AG G)) := by
  refine Sp_of (own := RX11) (by decide) rfl (Nat.le_of_ble_eq_true rfl) ?_
  intro p e s m args below meth c C
  show Rt G p l e (lvl 0) s m args below meth c 0 0 (MQ below (va_Qi (fun a b => a = r ∧ b = σ') (Wd G) (AG G)) args s 0 0 (AG G)) 2 0 [(0, vR (40, 0, 0)), (1, vI a1)] [] σ
  unfold F_X11_highest at hF
  refine r_iload_n C 1 1 dX11_highest_0 rfl rfl ?_
  refine r_iconst (v := (2 : Int32)) C dX11_highest_1 rfl ?_
  refine r_icmp_eq C 11 dX11_highest_2 (by decide)  (fun h5 => ?_) (fun h5 => ?_)
  · have hF := if_t h5 hF
    refine r_bipush (v := (60 : Int32)) C dX11_highest_11 rfl ?_
    refine r_goto C 45 dX11_highest_13 (by decide) ?_
    exact r_ireturn C dX11_highest_45 (rt_e hF)
  · have hF := if_f h5 hF
    refine r_iload_n C 1 1 dX11_highest_5 rfl rfl ?_
    refine r_bipush (v := (8 : Int32)) C dX11_highest_6 rfl ?_
    refine r_icmp_ne C 16 dX11_highest_8 (by decide)  (fun h4 => ?_) (fun h4 => ?_)
    · have hF := if_f h4 hF
      refine r_iload_n C 1 1 dX11_highest_16 rfl rfl ?_
      refine r_iconst (v := (4 : Int32)) C dX11_highest_17 rfl ?_
      refine r_icmp_eq C 27 dX11_highest_18 (by decide)  (fun h3 => ?_) (fun h3 => ?_)
      · have hF := if_t h3 hF
        refine r_bipush (v := (9 : Int32)) C dX11_highest_27 rfl ?_
        refine r_goto C 45 dX11_highest_29 (by decide) ?_
        exact r_ireturn C dX11_highest_45 (rt_e hF)
      · have hF := if_f h3 hF
        refine r_iload_n C 1 1 dX11_highest_21 rfl rfl ?_
        refine r_bipush (v := (7 : Int32)) C dX11_highest_22 rfl ?_
        refine r_icmp_ne C 32 dX11_highest_24 (by decide)  (fun h2 => ?_) (fun h2 => ?_)
        · have hF := if_f h2 hF
          refine r_iload_n C 1 1 dX11_highest_32 rfl rfl ?_
          refine r_bipush (v := (6 : Int32)) C dX11_highest_33 rfl ?_
          refine r_icmp_ne C 43 dX11_highest_35 (by decide)  (fun h1 => ?_) (fun h1 => ?_)
          · have hF := if_f h1 hF
            refine r_bipush (v := (99 : Int32)) C dX11_highest_43 rfl ?_
            exact r_ireturn C dX11_highest_45 (rt_e hF)
          · have hF := if_t h1 hF
            refine r_bipush (v := (50 : Int32)) C dX11_highest_38 rfl ?_
            refine r_goto C 45 dX11_highest_40 (by decide) ?_
            exact r_ireturn C dX11_highest_45 (rt_e hF)
        · have hF := if_t h2 hF
          refine r_bipush (v := (9 : Int32)) C dX11_highest_27 rfl ?_
          refine r_goto C 45 dX11_highest_29 (by decide) ?_
          exact r_ireturn C dX11_highest_45 (rt_e hF)
    · have hF := if_t h4 hF
      refine r_bipush (v := (60 : Int32)) C dX11_highest_11 rfl ?_
      refine r_goto C 45 dX11_highest_13 (by decide) ?_
      exact r_ireturn C dX11_highest_45 (rt_e hF)
def F_X11_readLine  (σ : St) : Option (Unit × St) :=
  nam (fun (y1 : Int32) (σ3 : St) => nam (fun (y4 : Int32) (σ6 : St) => bd (F_X11_needs y4 (2 : Int32) σ6) fun _ σ7 => nam (fun (y9 : Int32) (σ11 : St) => bd (F_X11_needs y9 (5 : Int32) σ11) fun _ σ12 => nam (fun  (σ15 : St) => bd (F_X11_next  σ15) fun _ σ16 => (if (σ16.1 (40, 0, 0) 13) ≤ 0 then nam (fun  (σ19 : St) => nam (fun  (σ21 : St) => bd (F_X11_next  σ21) fun _ σ22 => some ((), σ22)) fun k20 => (if (σ19.1 (40, 0, 0) 13) = 0 then nam (fun (y24 : Int32) (σ26 : St) => bd (F_X11_needs y24 (2 : Int32) σ26) fun _ σ27 => k20  σ27) fun k25 => (if (σ19.1 (40, 0, 0) 11) = (3 : Int32) then k25 (1 : Int32) σ19 else k25 (0 : Int32) σ19) else k20  σ19)) fun k18 => (if y1 = (20 : Int32) then bd (F_X11_readRow  σ16) fun _ σ49 => k18  σ49 else bd (F_X11_lowest y1 σ16) fun r32 σ31 => bd (F_X11_highest y1 σ31) fun r35 σ34 => bd (F_X11_readNumber r32 r35 σ34) fun r38 σ37 => ck (inb y1 9) (nam (uI σ37 (44, 0, 0) (y1.toNatClampNeg) r38) fun σ41 => (if y1 = (2 : Int32) then ck (inb (2 : Int32) 9) (bd (F_X11_readNumber (σ41.1 (44, 0, 0) 2) (60 : Int32) σ41) fun r44 σ43 => ck (inb (3 : Int32) 9) (nam (uI σ43 (44, 0, 0) 3 r44) fun σ47 => k18  σ47)) else k18  σ41))) else some ((), σ16))) fun k14 => (if (σ12.1 (40, 0, 0) 13) = 0 then (if y1 = (20 : Int32) then k14  σ12 else ck (inb y1 9) (nam (fun (y54 : Int32) (σ56 : St) => bd (F_X11_needs y54 (4 : Int32) σ56) fun _ σ57 => ck (inb y1 9) (nam (uI σ57 (45, 0, 0) (y1.toNatClampNeg) (vp_nar .boolean (1 : Int32))) fun σ60 => k14  σ60)) fun k55 => (if (σ12.1 (45, 0, 0) (y1.toNatClampNeg)) = 0 then k55 (1 : Int32) σ12 else k55 (0 : Int32) σ12))) else k14  σ12)) fun k10 => (if y1 = (20 : Int32) then (if (8 : Int32) ≤ (σ7.1 (40, 0, 0) 5) then k10 (0 : Int32) σ7 else k10 (1 : Int32) σ7) else k10 (1 : Int32) σ7)) fun k5 => (if y1 = (-4 : Int32) then k5 (0 : Int32) σ3 else k5 (1 : Int32) σ3)) fun k2 => (if (σ.1 (40, 0, 0) 11) = (1 : Int32) then bd (F_X11_nameNow  σ) fun r68 σ67 => k2 r68 σ67 else k2 (-4 : Int32) σ)
set_option maxRecDepth 20000 in
set_option maxHeartbeats 4000000 in
theorem s_X11_readLine (G : Gx) (l : Launch)  {σ σ' : St}  (hF : F_X11_readLine  σ = some ((), σ')) : Sp G l yX11_readLine cX11_readLine 2 none (lvl 3) [vR (40, 0, 0)] σ (va_Qv (fun b => b = σ') (Wd G) (AG G)) := by
  refine Sp_of (own := RX11) (by decide) rfl (Nat.le_of_ble_eq_true rfl) ?_
  intro p e s m args below meth c C
  show Rt G p l e (lvl 3) s m args below meth c 0 0 (MQ below (va_Qv (fun b => b = σ') (Wd G) (AG G)) args s 0 0 (AG G)) 2 0 [(0, vR (40, 0, 0))] [] σ
  unfold F_X11_readLine at hF
  refine r_aload_n C 0 0 dX11_readLine_0 rfl rfl ?_
  refine r_getI (kf := 11) C dX11_readLine_1 rfl rfl f_X11 (by decide) t_5_69 rfl ?_
  refine r_iconst (v := (1 : Int32)) C dX11_readLine_4 rfl ?_
  obtain ⟨k2, ek2, hF⟩ := nam_e hF
  have hk2 : ∀ (y1 : Int32) (σ3 : St), k2 y1 σ3 = some ((), σ') → Rt G p l e (lvl 3) s m args below meth c 0 0 (MQ below (va_Qv (fun b => b = σ') (Wd G) (AG G)) args s 0 0 (AG G)) 2 17 [(0, vR (40, 0, 0))] [vI y1] σ3 := by
    intro y1 σ3 hF
    subst ek2
    refine r_istore_n (ls2 := [(1, vI y1), (0, vR (40, 0, 0))]) C dX11_readLine_17 1 rfl (by decide) rfl ?_
    refine r_aload_n C 1 0 dX11_readLine_18 rfl rfl ?_
    refine r_iload_n C 0 1 dX11_readLine_19 rfl rfl ?_
    refine r_bipush (v := (-4 : Int32)) C dX11_readLine_20 rfl ?_
    obtain ⟨k5, ek5, hF⟩ := nam_e hF
    have hk5 : ∀ (y4 : Int32) (σ6 : St), k5 y4 σ6 = some ((), σ') → Rt G p l e (lvl 3) s m args below meth c 0 0 (MQ below (va_Qv (fun b => b = σ') (Wd G) (AG G)) args s 0 0 (AG G)) 2 30 [(0, vR (40, 0, 0)), (1, vI y1)] [vI y4, vR (40, 0, 0)] σ6 := by
      intro y4 σ6 hF
      subst ek5
      refine r_iconst (v := (2 : Int32)) C dX11_readLine_30 rfl ?_
      obtain ⟨⟨⟩, σ7, e8, hF⟩ := bd_e hF
      refine r_callV_v (as := [vI y4, vI (2 : Int32)]) (st := []) C dX11_readLine_31 (s_X11_needs G l e8) rfl rfl rfl t_5_174 t_5_176 t_s_25 t_1_14 t_5_177 m_X11_needs ⟨Nat.le_of_ble_eq_true rfl, Nat.le_of_ble_eq_true rfl⟩ ⟨rfl, rfl⟩ ⟨Nat.zero_le _, Nat.zero_le _⟩ rfl (Nat.le_of_ble_eq_true rfl) ?_
      refine r_aload_n C 0 0 dX11_readLine_34 rfl rfl ?_
      refine r_iload_n C 1 1 dX11_readLine_35 rfl rfl ?_
      refine r_bipush (v := (20 : Int32)) C dX11_readLine_36 rfl ?_
      obtain ⟨k10, ek10, hF⟩ := nam_e hF
      have hk10 : ∀ (y9 : Int32) (σ11 : St), k10 y9 σ11 = some ((), σ') → Rt G p l e (lvl 3) s m args below meth c 0 0 (MQ below (va_Qv (fun b => b = σ') (Wd G) (AG G)) args s 0 0 (AG G)) 2 55 [(0, vR (40, 0, 0)), (1, vI y1)] [vI y9, vR (40, 0, 0)] σ11 := by
        intro y9 σ11 hF
        subst ek10
        refine r_iconst (v := (5 : Int32)) C dX11_readLine_55 rfl ?_
        obtain ⟨⟨⟩, σ12, e13, hF⟩ := bd_e hF
        refine r_callV_v (as := [vI y9, vI (5 : Int32)]) (st := []) C dX11_readLine_56 (s_X11_needs G l e13) rfl rfl rfl t_5_174 t_5_176 t_s_25 t_1_14 t_5_177 m_X11_needs ⟨Nat.le_of_ble_eq_true rfl, Nat.le_of_ble_eq_true rfl⟩ ⟨rfl, rfl⟩ ⟨Nat.zero_le _, Nat.zero_le _⟩ rfl (Nat.le_of_ble_eq_true rfl) ?_
        refine r_aload_n C 0 0 dX11_readLine_59 rfl rfl ?_
        refine r_getI (kf := 13) C dX11_readLine_60 rfl rfl f_X11 (by decide) t_5_71 rfl ?_
        obtain ⟨k14, ek14, hF⟩ := nam_e hF
        have hk14 : ∀  (σ15 : St), k14  σ15 = some ((), σ') → Rt G p l e (lvl 3) s m args below meth c 0 0 (MQ below (va_Qv (fun b => b = σ') (Wd G) (AG G)) args s 0 0 (AG G)) 2 98 [(0, vR (40, 0, 0)), (1, vI y1)] [] σ15 := by
          intro  σ15 hF
          subst ek14
          refine r_aload_n C 0 0 dX11_readLine_98 rfl rfl ?_
          obtain ⟨⟨⟩, σ16, e17, hF⟩ := bd_e hF
          refine r_callV_v (as := []) (st := []) C dX11_readLine_99 (s_X11_next G l e17) rfl rfl rfl t_5_162 t_5_164 t_s_23 t_1_14 t_5_165 m_X11_next ⟨Nat.le_of_ble_eq_true rfl, Nat.le_of_ble_eq_true rfl⟩ ⟨rfl, rfl⟩ ⟨Nat.zero_le _, Nat.zero_le _⟩ rfl (Nat.le_of_ble_eq_true rfl) ?_
          refine r_aload_n C 0 0 dX11_readLine_102 rfl rfl ?_
          refine r_getI (kf := 13) C dX11_readLine_103 rfl rfl f_X11 (by decide) t_5_71 rfl ?_
          refine r_if_le C 110 dX11_readLine_106 (by decide)  (fun h52 => ?_) (fun h52 => ?_)
          · have hF := if_t h52 hF
            refine r_iload_n C 1 1 dX11_readLine_110 rfl rfl ?_
            refine r_bipush (v := (20 : Int32)) C dX11_readLine_111 rfl ?_
            obtain ⟨k18, ek18, hF⟩ := nam_e hF
            have hk18 : ∀  (σ19 : St), k18  σ19 = some ((), σ') → Rt G p l e (lvl 3) s m args below meth c 0 0 (MQ below (va_Qv (fun b => b = σ') (Wd G) (AG G)) args s 0 0 (AG G)) 2 166 [(0, vR (40, 0, 0))] [] σ19 := by
              intro  σ19 hF
              subst ek18
              refine r_aload_n C 0 0 dX11_readLine_166 rfl rfl ?_
              refine r_getI (kf := 13) C dX11_readLine_167 rfl rfl f_X11 (by decide) t_5_71 rfl ?_
              obtain ⟨k20, ek20, hF⟩ := nam_e hF
              have hk20 : ∀  (σ21 : St), k20  σ21 = some ((), σ') → Rt G p l e (lvl 3) s m args below meth c 0 0 (MQ below (va_Qv (fun b => b = σ') (Wd G) (AG G)) args s 0 0 (AG G)) 2 191 [(0, vR (40, 0, 0))] [] σ21 := by
                intro  σ21 hF
                subst ek20
                refine r_aload_n C 0 0 dX11_readLine_191 rfl rfl ?_
                obtain ⟨⟨⟩, σ22, e23, hF⟩ := bd_e hF
                refine r_callV_v (as := []) (st := []) C dX11_readLine_192 (s_X11_next G l e23) rfl rfl rfl t_5_162 t_5_164 t_s_23 t_1_14 t_5_165 m_X11_next ⟨Nat.le_of_ble_eq_true rfl, Nat.le_of_ble_eq_true rfl⟩ ⟨rfl, rfl⟩ ⟨Nat.zero_le _, Nat.zero_le _⟩ rfl (Nat.le_of_ble_eq_true rfl) ?_
                exact r_return C dX11_readLine_195 (rv_e hF)
              refine r_if_ne C 191 dX11_readLine_170 (by decide)  (fun h30 => ?_) (fun h30 => ?_)
              · have hF := if_f h30 hF
                exact hk20 _ hF
              · have hF := if_t h30 hF
                refine r_aload_n C 0 0 dX11_readLine_173 rfl rfl ?_
                refine r_aload_n C 0 0 dX11_readLine_174 rfl rfl ?_
                refine r_getI (kf := 11) C dX11_readLine_175 rfl rfl f_X11 (by decide) t_5_69 rfl ?_
                refine r_iconst (v := (3 : Int32)) C dX11_readLine_178 rfl ?_
                obtain ⟨k25, ek25, hF⟩ := nam_e hF
                have hk25 : ∀ (y24 : Int32) (σ26 : St), k25 y24 σ26 = some ((), σ') → Rt G p l e (lvl 3) s m args below meth c 0 0 (MQ below (va_Qv (fun b => b = σ') (Wd G) (AG G)) args s 0 0 (AG G)) 2 187 [(0, vR (40, 0, 0))] [vI y24, vR (40, 0, 0)] σ26 := by
                  intro y24 σ26 hF
                  subst ek25
                  refine r_iconst (v := (2 : Int32)) C dX11_readLine_187 rfl ?_
                  obtain ⟨⟨⟩, σ27, e28, hF⟩ := bd_e hF
                  refine r_callV_v (as := [vI y24, vI (2 : Int32)]) (st := []) C dX11_readLine_188 (s_X11_needs G l e28) rfl rfl rfl t_5_174 t_5_176 t_s_25 t_1_14 t_5_177 m_X11_needs ⟨Nat.le_of_ble_eq_true rfl, Nat.le_of_ble_eq_true rfl⟩ ⟨rfl, rfl⟩ ⟨Nat.zero_le _, Nat.zero_le _⟩ rfl (Nat.le_of_ble_eq_true rfl) ?_
                  exact hk20 _ hF
                refine r_icmp_ne C 186 dX11_readLine_179 (by decide)  (fun h29 => ?_) (fun h29 => ?_)
                · have hF := if_f h29 hF
                  refine r_iconst (v := (0 : Int32)) C dX11_readLine_186 rfl ?_
                  exact hk25 _ _ hF
                · have hF := if_t h29 hF
                  refine r_iconst (v := (1 : Int32)) C dX11_readLine_182 rfl ?_
                  refine r_goto C 187 dX11_readLine_183 (by decide) ?_
                  exact hk25 _ _ hF
            refine r_icmp_ne C 123 dX11_readLine_113 (by decide)  (fun h51 => ?_) (fun h51 => ?_)
            · have hF := if_f h51 hF
              refine r_aload_n C 0 0 dX11_readLine_123 rfl rfl ?_
              refine r_getR (kf := 3) (d2 := (44, 0, 0)) C dX11_readLine_124 rfl rfl f_X11 (by decide) t_5_61 rfl rfl ?_
              refine r_iload_n C 1 1 dX11_readLine_127 rfl rfl ?_
              refine r_aload_n C 0 0 dX11_readLine_128 rfl rfl ?_
              refine r_aload_n C 0 0 dX11_readLine_129 rfl rfl ?_
              refine r_iload_n C 1 1 dX11_readLine_130 rfl rfl ?_
              obtain ⟨r32, σ31, e33, hF⟩ := bd_e hF
              refine r_callV_i (as := [vI y1]) (st := [vR (40, 0, 0), vI y1, vR (44, 0, 0)]) C dX11_readLine_131 (s_X11_lowest G l e33) rfl rfl rfl t_5_200 t_5_202 t_s_30 t_1_14 t_5_203 m_X11_lowest ⟨Nat.le_of_ble_eq_true rfl, Nat.le_of_ble_eq_true rfl⟩ ⟨rfl, rfl⟩ ⟨Nat.zero_le _, Nat.zero_le _⟩ rfl (Nat.le_of_ble_eq_true rfl) ?_
              refine r_aload_n C 0 0 dX11_readLine_134 rfl rfl ?_
              refine r_iload_n C 1 1 dX11_readLine_135 rfl rfl ?_
              obtain ⟨r35, σ34, e36, hF⟩ := bd_e hF
              refine r_callV_i (as := [vI y1]) (st := [vI r32, vR (40, 0, 0), vI y1, vR (44, 0, 0)]) C dX11_readLine_136 (s_X11_highest G l e36) rfl rfl rfl t_5_204 t_5_206 t_s_31 t_1_14 t_5_207 m_X11_highest ⟨Nat.le_of_ble_eq_true rfl, Nat.le_of_ble_eq_true rfl⟩ ⟨rfl, rfl⟩ ⟨Nat.zero_le _, Nat.zero_le _⟩ rfl (Nat.le_of_ble_eq_true rfl) ?_
              obtain ⟨r38, σ37, e39, hF⟩ := bd_e hF
              refine r_callV_i (as := [vI r32, vI r35]) (st := [vI y1, vR (44, 0, 0)]) C dX11_readLine_139 (s_X11_readNumber G l e39) rfl rfl rfl t_5_208 t_5_210 t_s_32 t_1_14 t_5_211 m_X11_readNumber ⟨Nat.le_of_ble_eq_true rfl, Nat.le_of_ble_eq_true rfl⟩ ⟨rfl, rfl⟩ ⟨Nat.zero_le _, Nat.zero_le _⟩ rfl (Nat.le_of_ble_eq_true rfl) ?_
              obtain ⟨h40, hF⟩ := ck_e hF
              obtain ⟨σ41, eσ41, hF⟩ := nam_e hF
              refine r_iastore C (y1.toNatClampNeg) dX11_readLine_142 rfl h40 rfl eσ41 ?_
              refine r_iload_n C 1 1 dX11_readLine_143 rfl rfl ?_
              refine r_iconst (v := (2 : Int32)) C dX11_readLine_144 rfl ?_
              refine r_icmp_ne C 166 dX11_readLine_145 (by decide)  (fun h48 => ?_) (fun h48 => ?_)
              · have hF := if_f h48 hF
                refine r_drop (ls2 := [(0, vR (40, 0, 0))]) [0] rfl ?_
                exact hk18 _ hF
              · have hF := if_t h48 hF
                refine r_aload_n C 0 0 dX11_readLine_148 rfl rfl ?_
                refine r_getR (kf := 3) (d2 := (44, 0, 0)) C dX11_readLine_149 rfl rfl f_X11 (by decide) t_5_61 rfl rfl ?_
                refine r_iconst (v := (3 : Int32)) C dX11_readLine_152 rfl ?_
                refine r_aload_n C 0 0 dX11_readLine_153 rfl rfl ?_
                refine r_aload_n C 0 0 dX11_readLine_154 rfl rfl ?_
                refine r_getR (kf := 3) (d2 := (44, 0, 0)) C dX11_readLine_155 rfl rfl f_X11 (by decide) t_5_61 rfl rfl ?_
                refine r_iconst (v := (2 : Int32)) C dX11_readLine_158 rfl ?_
                obtain ⟨h42, hF⟩ := ck_e hF
                refine r_iaload C 2 dX11_readLine_159 rfl h42 rfl ?_
                refine r_bipush (v := (60 : Int32)) C dX11_readLine_160 rfl ?_
                obtain ⟨r44, σ43, e45, hF⟩ := bd_e hF
                refine r_callV_i (as := [vI (σ41.1 (44, 0, 0) 2), vI (60 : Int32)]) (st := [vI (3 : Int32), vR (44, 0, 0)]) C dX11_readLine_162 (s_X11_readNumber G l e45) rfl rfl rfl t_5_208 t_5_210 t_s_32 t_1_14 t_5_211 m_X11_readNumber ⟨Nat.le_of_ble_eq_true rfl, Nat.le_of_ble_eq_true rfl⟩ ⟨rfl, rfl⟩ ⟨Nat.zero_le _, Nat.zero_le _⟩ rfl (Nat.le_of_ble_eq_true rfl) ?_
                obtain ⟨h46, hF⟩ := ck_e hF
                obtain ⟨σ47, eσ47, hF⟩ := nam_e hF
                refine r_iastore C 3 dX11_readLine_165 rfl h46 rfl eσ47 ?_
                refine r_drop (ls2 := [(0, vR (40, 0, 0))]) [0] rfl ?_
                exact hk18 _ hF
            · have hF := if_t h51 hF
              refine r_aload_n C 0 0 dX11_readLine_116 rfl rfl ?_
              obtain ⟨⟨⟩, σ49, e50, hF⟩ := bd_e hF
              refine r_callV_v (as := []) (st := []) C dX11_readLine_117 (s_X11_readRow G l e50) rfl rfl rfl t_5_190 t_5_192 t_s_29 t_1_14 t_5_193 m_X11_readRow ⟨Nat.le_of_ble_eq_true rfl, Nat.le_of_ble_eq_true rfl⟩ ⟨rfl, rfl⟩ ⟨Nat.zero_le _, Nat.zero_le _⟩ rfl (Nat.le_of_ble_eq_true rfl) ?_
              refine r_goto C 166 dX11_readLine_120 (by decide) ?_
              refine r_drop (ls2 := [(0, vR (40, 0, 0))]) [0] rfl ?_
              exact hk18 _ hF
          · have hF := if_f h52 hF
            exact r_return C dX11_readLine_109 (rv_e hF)
        refine r_if_ne C 98 dX11_readLine_63 (by decide)  (fun h63 => ?_) (fun h63 => ?_)
        · have hF := if_f h63 hF
          exact hk14 _ hF
        · have hF := if_t h63 hF
          refine r_iload_n C 1 1 dX11_readLine_66 rfl rfl ?_
          refine r_bipush (v := (20 : Int32)) C dX11_readLine_67 rfl ?_
          refine r_icmp_eq C 98 dX11_readLine_69 (by decide)  (fun h62 => ?_) (fun h62 => ?_)
          · have hF := if_t h62 hF
            exact hk14 _ hF
          · have hF := if_f h62 hF
            refine r_aload_n C 0 0 dX11_readLine_72 rfl rfl ?_
            refine r_aload_n C 0 0 dX11_readLine_73 rfl rfl ?_
            refine r_getR (kf := 4) (d2 := (45, 0, 0)) C dX11_readLine_74 rfl rfl f_X11 (by decide) t_5_62 rfl rfl ?_
            refine r_iload_n C 1 1 dX11_readLine_77 rfl rfl ?_
            obtain ⟨h53, hF⟩ := ck_e hF
            refine r_zaload C (y1.toNatClampNeg) dX11_readLine_78 rfl h53 rfl ?_
            obtain ⟨k55, ek55, hF⟩ := nam_e hF
            have hk55 : ∀ (y54 : Int32) (σ56 : St), k55 y54 σ56 = some ((), σ') → Rt G p l e (lvl 3) s m args below meth c 0 0 (MQ below (va_Qv (fun b => b = σ') (Wd G) (AG G)) args s 0 0 (AG G)) 2 87 [(0, vR (40, 0, 0)), (1, vI y1)] [vI y54, vR (40, 0, 0)] σ56 := by
              intro y54 σ56 hF
              subst ek55
              refine r_iconst (v := (4 : Int32)) C dX11_readLine_87 rfl ?_
              obtain ⟨⟨⟩, σ57, e58, hF⟩ := bd_e hF
              refine r_callV_v (as := [vI y54, vI (4 : Int32)]) (st := []) C dX11_readLine_88 (s_X11_needs G l e58) rfl rfl rfl t_5_174 t_5_176 t_s_25 t_1_14 t_5_177 m_X11_needs ⟨Nat.le_of_ble_eq_true rfl, Nat.le_of_ble_eq_true rfl⟩ ⟨rfl, rfl⟩ ⟨Nat.zero_le _, Nat.zero_le _⟩ rfl (Nat.le_of_ble_eq_true rfl) ?_
              refine r_aload_n C 0 0 dX11_readLine_91 rfl rfl ?_
              refine r_getR (kf := 4) (d2 := (45, 0, 0)) C dX11_readLine_92 rfl rfl f_X11 (by decide) t_5_62 rfl rfl ?_
              refine r_iload_n C 1 1 dX11_readLine_95 rfl rfl ?_
              refine r_iconst (v := (1 : Int32)) C dX11_readLine_96 rfl ?_
              obtain ⟨h59, hF⟩ := ck_e hF
              obtain ⟨σ60, eσ60, hF⟩ := nam_e hF
              refine r_zastore C (y1.toNatClampNeg) dX11_readLine_97 rfl h59 rfl eσ60 ?_
              exact hk14 _ hF
            refine r_if_ne C 86 dX11_readLine_79 (by decide)  (fun h61 => ?_) (fun h61 => ?_)
            · have hF := if_f h61 hF
              refine r_iconst (v := (0 : Int32)) C dX11_readLine_86 rfl ?_
              exact hk55 _ _ hF
            · have hF := if_t h61 hF
              refine r_iconst (v := (1 : Int32)) C dX11_readLine_82 rfl ?_
              refine r_goto C 87 dX11_readLine_83 (by decide) ?_
              exact hk55 _ _ hF
      refine r_icmp_ne C 50 dX11_readLine_38 (by decide)  (fun h65 => ?_) (fun h65 => ?_)
      · have hF := if_f h65 hF
        refine r_iconst (v := (1 : Int32)) C dX11_readLine_50 rfl ?_
        refine r_goto C 55 dX11_readLine_51 (by decide) ?_
        exact hk10 _ _ hF
      · have hF := if_t h65 hF
        refine r_aload_n C 0 0 dX11_readLine_41 rfl rfl ?_
        refine r_getI (kf := 5) C dX11_readLine_42 rfl rfl f_X11 (by decide) t_5_63 rfl ?_
        refine r_bipush (v := (8 : Int32)) C dX11_readLine_45 rfl ?_
        refine r_icmp_ge C 54 dX11_readLine_47 (by decide)  (fun h64 => ?_) (fun h64 => ?_)
        · have hF := if_t h64 hF
          refine r_iconst (v := (0 : Int32)) C dX11_readLine_54 rfl ?_
          exact hk10 _ _ hF
        · have hF := if_f h64 hF
          refine r_iconst (v := (1 : Int32)) C dX11_readLine_50 rfl ?_
          refine r_goto C 55 dX11_readLine_51 (by decide) ?_
          exact hk10 _ _ hF
    refine r_icmp_eq C 29 dX11_readLine_22 (by decide)  (fun h66 => ?_) (fun h66 => ?_)
    · have hF := if_t h66 hF
      refine r_iconst (v := (0 : Int32)) C dX11_readLine_29 rfl ?_
      refine r_drop (ls2 := [(0, vR (40, 0, 0)), (1, vI y1)]) [1, 0] rfl ?_
      exact hk5 _ _ hF
    · have hF := if_f h66 hF
      refine r_iconst (v := (1 : Int32)) C dX11_readLine_25 rfl ?_
      refine r_goto C 30 dX11_readLine_26 (by decide) ?_
      refine r_drop (ls2 := [(0, vR (40, 0, 0)), (1, vI y1)]) [1, 0] rfl ?_
      exact hk5 _ _ hF
  refine r_icmp_ne C 15 dX11_readLine_5 (by decide)  (fun h70 => ?_) (fun h70 => ?_)
  · have hF := if_f h70 hF
    refine r_bipush (v := (-4 : Int32)) C dX11_readLine_15 rfl ?_
    exact hk2 _ _ hF
  · have hF := if_t h70 hF
    refine r_aload_n C 0 0 dX11_readLine_8 rfl rfl ?_
    obtain ⟨r68, σ67, e69, hF⟩ := bd_e hF
    refine r_callV_i (as := []) (st := []) C dX11_readLine_9 (s_X11_nameNow G l e69) rfl rfl rfl t_5_182 t_5_184 t_s_27 t_1_14 t_5_185 m_X11_nameNow ⟨Nat.le_of_ble_eq_true rfl, Nat.le_of_ble_eq_true rfl⟩ ⟨rfl, rfl⟩ ⟨Nat.zero_le _, Nat.zero_le _⟩ rfl (Nat.le_of_ble_eq_true rfl) ?_
    refine r_goto C 17 dX11_readLine_12 (by decide) ?_
    exact hk2 _ _ hF
def L_X11_text_20  : Nat → Int32 → St → (Int32 → St → Option (Int32 × St)) → Option (Int32 × St)
  | 0, _, _, _ => none
  | n + 1, v1, τ, kx44 =>
  (if (τ.1 (40, 0, 0) 13) = 0 then (if (τ.1 (40, 0, 0) 11) = 0 then kx44 v1 τ else bd (F_X11_readLine  τ) fun _ σ7 => nam (v1 + (1 : Int32)) fun x9 => L_X11_text_20 n x9 σ7 kx44) else kx44 v1 τ)
def F_X11_text  (σ : St) : Option (Int32 × St) :=
  nam (uI σ (40, 0, 0) 13 (0 : Int32)) fun σ1 => nam (uI σ1 (40, 0, 0) 9 (0 : Int32)) fun σ2 => bd (F_X11_firstDraft  σ2) fun _ σ3 => bd (F_X11_next  σ3) fun _ σ5 => L_X11_text_20  FU (0 : Int32) σ5 (fun (y13 : Int32) (σ12 : St) => ck (inb (1 : Int32) 9) (ck (inb (0 : Int32) 9) (nam (fun (y16 : Int32) (σ18 : St) => bd (F_X11_needs y16 (6 : Int32) σ18) fun _ σ19 => nam (uI σ19 (40, 0, 0) 8 (0 : Int32)) fun σ21 => (if (σ21.1 (40, 0, 0) 13) ≤ 0 then bd (F_X11_keepDraft  σ21) fun _ σ22 => some (y13, σ22) else some ((-10 : Int32) - (σ21.1 (40, 0, 0) 14), σ21))) fun k17 => (if (σ12.1 (44, 0, 0) 0) < (σ12.1 (44, 0, 0) 1) then k17 (0 : Int32) σ12 else k17 (1 : Int32) σ12))))
set_option maxRecDepth 20000 in
set_option maxHeartbeats 4000000 in
theorem l_X11_text_20 {G : Gx} {p : Program} {l : Launch} {e : Env} {s : State} {m : MethodId} {args : Array Value} {below : List Frame} {meth : Method} {c : Code} (C : Cx G p s m args meth c (some .int) 2 RX11 cX11_text)  {σ' : St} {r : Int32} (kx44 : Int32 → St → Option (Int32 × St)) (hkx44 : ∀ (w1 : Int32) (τ : St), kx44 w1 τ = some (r, σ') → Rt G p l e (lvl 4) s m args below meth c 0 0 (MQ below (va_Qi (fun a b => a = r ∧ b = σ') (Wd G) (AG G)) args s 0 0 (AG G)) 2 44 [(0, vR (40, 0, 0)), (1, vI w1)] [] τ) : ∀ (n : Nat) (v1 : Int32) (τ : St), L_X11_text_20  n v1 τ kx44 = some (r, σ') → Rt G p l e (lvl 4) s m args below meth c 0 0 (MQ below (va_Qi (fun a b => a = r ∧ b = σ') (Wd G) (AG G)) args s 0 0 (AG G)) 2 20 [(0, vR (40, 0, 0)), (1, vI v1)] [] τ := by
  intro n
  induction n with
  | zero => intro v1 τ hF; cases hF
  | succ n ih =>
    intro v1 τ hF
    unfold L_X11_text_20 at hF
    refine r_aload_n C 0 0 dX11_text_20 rfl rfl ?_
    refine r_getI (kf := 13) C dX11_text_21 rfl rfl f_X11 (by decide) t_5_71 rfl ?_
    refine r_if_ne C 44 dX11_text_24 (by decide)  (fun h11 => ?_) (fun h11 => ?_)
    · have hF := if_f h11 hF
      exact hkx44 _ _ hF
    · have hF := if_t h11 hF
      refine r_aload_n C 0 0 dX11_text_27 rfl rfl ?_
      refine r_getI (kf := 11) C dX11_text_28 rfl rfl f_X11 (by decide) t_5_69 rfl ?_
      refine r_if_eq C 44 dX11_text_31 (by decide)  (fun h10 => ?_) (fun h10 => ?_)
      · have hF := if_t h10 hF
        exact hkx44 _ _ hF
      · have hF := if_f h10 hF
        refine r_aload_n C 0 0 dX11_text_34 rfl rfl ?_
        obtain ⟨⟨⟩, σ7, e8, hF⟩ := bd_e hF
        refine r_callV_v (as := []) (st := []) C dX11_text_35 (s_X11_readLine G l e8) rfl rfl rfl t_5_178 t_5_180 t_s_26 t_1_14 t_5_181 m_X11_readLine ⟨Nat.le_of_ble_eq_true rfl, Nat.le_of_ble_eq_true rfl⟩ ⟨rfl, rfl⟩ ⟨Nat.zero_le _, Nat.zero_le _⟩ rfl (Nat.le_of_ble_eq_true rfl) ?_
        obtain ⟨x9, ex9, hF⟩ := nam_e hF
        refine r_iinc (v := x9) (ls2 := [(1, vI x9), (0, vR (40, 0, 0))]) C 1 dX11_text_38 rfl ex9.symm (by decide) rfl ?_
        refine r_goto C 20 dX11_text_41 (by decide) ?_
        refine r_drop (ls2 := [(0, vR (40, 0, 0)), (1, vI x9)]) [1, 0] rfl ?_
        exact ih _ _ hF
set_option maxRecDepth 20000 in
set_option maxHeartbeats 4000000 in
theorem s_X11_text (G : Gx) (l : Launch)  {σ σ' : St} {r : Int32} (hF : F_X11_text  σ = some (r, σ')) : Sp G l yX11_text cX11_text 2 (some .int) (lvl 4) [vR (40, 0, 0)] σ (va_Qi (fun a b => a = r ∧ b = σ') (Wd G) (AG G)) := by
  refine Sp_of (own := RX11) (by decide) rfl (Nat.le_of_ble_eq_true rfl) ?_
  intro p e s m args below meth c C
  show Rt G p l e (lvl 4) s m args below meth c 0 0 (MQ below (va_Qi (fun a b => a = r ∧ b = σ') (Wd G) (AG G)) args s 0 0 (AG G)) 2 0 [(0, vR (40, 0, 0))] [] σ
  unfold F_X11_text at hF
  refine r_iconst (v := (0 : Int32)) C dX11_text_0 rfl ?_
  refine r_istore_n (ls2 := [(1, vI (0 : Int32)), (0, vR (40, 0, 0))]) C dX11_text_1 1 rfl (by decide) rfl ?_
  refine r_aload_n C 1 0 dX11_text_2 rfl rfl ?_
  refine r_iconst (v := (0 : Int32)) C dX11_text_3 rfl ?_
  obtain ⟨σ1, eσ1, hF⟩ := nam_e hF
  refine r_put (kf := 13) (ty0 := tyX11) C dX11_text_4 rfl rfl f_X11 tyX11_ok nmX11 (by decide) t_5_71 rfl rfl rfl rfl eσ1 ?_
  refine r_aload_n C 1 0 dX11_text_7 rfl rfl ?_
  refine r_iconst (v := (0 : Int32)) C dX11_text_8 rfl ?_
  obtain ⟨σ2, eσ2, hF⟩ := nam_e hF
  refine r_put (kf := 9) (ty0 := tyX11) C dX11_text_9 rfl rfl f_X11 tyX11_ok nmX11 (by decide) t_5_67 rfl rfl rfl rfl eσ2 ?_
  refine r_aload_n C 1 0 dX11_text_12 rfl rfl ?_
  obtain ⟨⟨⟩, σ3, e4, hF⟩ := bd_e hF
  refine r_callV_v (as := []) (st := []) C dX11_text_13 (s_X11_firstDraft G l e4) rfl rfl rfl t_5_50 t_5_52 t_s_21 t_1_14 t_5_53 m_X11_firstDraft ⟨Nat.le_of_ble_eq_true rfl, Nat.le_of_ble_eq_true rfl⟩ ⟨rfl, rfl⟩ ⟨Nat.zero_le _, Nat.zero_le _⟩ rfl (Nat.le_of_ble_eq_true rfl) ?_
  refine r_aload_n C 1 0 dX11_text_16 rfl rfl ?_
  obtain ⟨⟨⟩, σ5, e6, hF⟩ := bd_e hF
  refine r_callV_v (as := []) (st := []) C dX11_text_17 (s_X11_next G l e6) rfl rfl rfl t_5_162 t_5_164 t_s_23 t_1_14 t_5_165 m_X11_next ⟨Nat.le_of_ble_eq_true rfl, Nat.le_of_ble_eq_true rfl⟩ ⟨rfl, rfl⟩ ⟨Nat.zero_le _, Nat.zero_le _⟩ rfl (Nat.le_of_ble_eq_true rfl) ?_
  refine r_drop (ls2 := [(0, vR (40, 0, 0)), (1, vI (0 : Int32))]) [1, 0] rfl ?_
  refine l_X11_text_20 C  _ ?_ _ _ _ hF
  · intro y13 σ12 hF
    refine r_aload_n C 0 0 dX11_text_44 rfl rfl ?_
    refine r_aload_n C 0 0 dX11_text_45 rfl rfl ?_
    refine r_getR (kf := 3) (d2 := (44, 0, 0)) C dX11_text_46 rfl rfl f_X11 (by decide) t_5_61 rfl rfl ?_
    refine r_iconst (v := (1 : Int32)) C dX11_text_49 rfl ?_
    obtain ⟨h14, hF⟩ := ck_e hF
    refine r_iaload C 1 dX11_text_50 rfl h14 rfl ?_
    refine r_aload_n C 0 0 dX11_text_51 rfl rfl ?_
    refine r_getR (kf := 3) (d2 := (44, 0, 0)) C dX11_text_52 rfl rfl f_X11 (by decide) t_5_61 rfl rfl ?_
    refine r_iconst (v := (0 : Int32)) C dX11_text_55 rfl ?_
    obtain ⟨h15, hF⟩ := ck_e hF
    refine r_iaload C 0 dX11_text_56 rfl h15 rfl ?_
    obtain ⟨k17, ek17, hF⟩ := nam_e hF
    have hk17 : ∀ (y16 : Int32) (σ18 : St), k17 y16 σ18 = some (r, σ') → Rt G p l e (lvl 4) s m args below meth c 0 0 (MQ below (va_Qi (fun a b => a = r ∧ b = σ') (Wd G) (AG G)) args s 0 0 (AG G)) 2 65 [(0, vR (40, 0, 0)), (1, vI y13)] [vI y16, vR (40, 0, 0)] σ18 := by
      intro y16 σ18 hF
      subst ek17
      refine r_bipush (v := (6 : Int32)) C dX11_text_65 rfl ?_
      obtain ⟨⟨⟩, σ19, e20, hF⟩ := bd_e hF
      refine r_callV_v (as := [vI y16, vI (6 : Int32)]) (st := []) C dX11_text_67 (s_X11_needs G l e20) rfl rfl rfl t_5_174 t_5_176 t_s_25 t_1_14 t_5_177 m_X11_needs ⟨Nat.le_of_ble_eq_true rfl, Nat.le_of_ble_eq_true rfl⟩ ⟨rfl, rfl⟩ ⟨Nat.zero_le _, Nat.zero_le _⟩ rfl (Nat.le_of_ble_eq_true rfl) ?_
      refine r_aload_n C 0 0 dX11_text_70 rfl rfl ?_
      refine r_iconst (v := (0 : Int32)) C dX11_text_71 rfl ?_
      obtain ⟨σ21, eσ21, hF⟩ := nam_e hF
      refine r_put (kf := 8) (ty0 := tyX11) C dX11_text_72 rfl rfl f_X11 tyX11_ok nmX11 (by decide) t_5_66 rfl rfl rfl rfl eσ21 ?_
      refine r_aload_n C 0 0 dX11_text_75 rfl rfl ?_
      refine r_getI (kf := 13) C dX11_text_76 rfl rfl f_X11 (by decide) t_5_71 rfl ?_
      refine r_if_le C 90 dX11_text_79 (by decide)  (fun h24 => ?_) (fun h24 => ?_)
      · have hF := if_t h24 hF
        refine r_aload_n C 0 0 dX11_text_90 rfl rfl ?_
        obtain ⟨⟨⟩, σ22, e23, hF⟩ := bd_e hF
        refine r_callV_v (as := []) (st := []) C dX11_text_91 (s_X11_keepDraft G l e23) rfl rfl rfl t_5_54 t_5_56 t_s_22 t_1_14 t_5_57 m_X11_keepDraft ⟨Nat.le_of_ble_eq_true rfl, Nat.le_of_ble_eq_true rfl⟩ ⟨rfl, rfl⟩ ⟨Nat.zero_le _, Nat.zero_le _⟩ rfl (Nat.le_of_ble_eq_true rfl) ?_
        refine r_iload_n C 1 1 dX11_text_94 rfl rfl ?_
        exact r_ireturn C dX11_text_95 (rt_e hF)
      · have hF := if_f h24 hF
        refine r_bipush (v := (-10 : Int32)) C dX11_text_82 rfl ?_
        refine r_aload_n C 0 0 dX11_text_84 rfl rfl ?_
        refine r_getI (kf := 14) C dX11_text_85 rfl rfl f_X11 (by decide) t_5_72 rfl ?_
        refine r_isub C dX11_text_88 ?_
        exact r_ireturn C dX11_text_89 (rt_e hF)
    refine r_icmp_gt C 64 dX11_text_57 (by decide)  (fun h25 => ?_) (fun h25 => ?_)
    · have hF := if_t h25 hF
      refine r_iconst (v := (0 : Int32)) C dX11_text_64 rfl ?_
      exact hk17 _ _ hF
    · have hF := if_f h25 hF
      refine r_iconst (v := (1 : Int32)) C dX11_text_60 rfl ?_
      refine r_goto C 65 dX11_text_61 (by decide) ?_
      exact hk17 _ _ hF
def F_X11_fault  (σ : St) : Option (Int32 × St) :=
  some (σ.1 (40, 0, 0) 13, σ)
set_option maxRecDepth 20000 in
set_option maxHeartbeats 4000000 in
theorem s_X11_fault (G : Gx) (l : Launch)  {σ σ' : St} {r : Int32} (hF : F_X11_fault  σ = some (r, σ')) : Sp G l yX11_fault cX11_fault 1 (some .int) (lvl 0) [vR (40, 0, 0)] σ (va_Qi (fun a b => a = r ∧ b = σ') (Wd G) (AG G)) := by
  refine Sp_of (own := RX11) (by decide) rfl (Nat.le_of_ble_eq_true rfl) ?_
  intro p e s m args below meth c C
  show Rt G p l e (lvl 0) s m args below meth c 0 0 (MQ below (va_Qi (fun a b => a = r ∧ b = σ') (Wd G) (AG G)) args s 0 0 (AG G)) 1 0 [(0, vR (40, 0, 0))] [] σ
  unfold F_X11_fault at hF
  refine r_aload_n C 0 0 dX11_fault_0 rfl rfl ?_
  refine r_getI (kf := 13) C dX11_fault_1 rfl rfl f_X11 (by decide) t_5_71 rfl ?_
  exact r_ireturn C dX11_fault_4 (rt_e hF)
def F_X11_rule (a1 : Int32) (σ : St) : Option (Int32 × St) :=
  bd (F_X11_in (a1.toInt64) (0 : Int64) (8 : Int64) σ) fun r2 σ1 => (if r2 = 0 then some ((-1 : Int32), σ1) else ck (inb a1 9) (some (σ1.1 (43, 0, 0) (a1.toNatClampNeg), σ1)))
set_option maxRecDepth 20000 in
set_option maxHeartbeats 4000000 in
theorem s_X11_rule (G : Gx) (l : Launch) {a1 : Int32} {σ σ' : St} {r : Int32} (hF : F_X11_rule a1 σ = some (r, σ')) : Sp G l yX11_rule cX11_rule 2 (some .int) (lvl 1) [vR (40, 0, 0), vI a1] σ (va_Qi (fun a b => a = r ∧ b = σ') (Wd G) (AG G)) := by
  refine Sp_of (own := RX11) (by decide) rfl (Nat.le_of_ble_eq_true rfl) ?_
  intro p e s m args below meth c C
  show Rt G p l e (lvl 1) s m args below meth c 0 0 (MQ below (va_Qi (fun a b => a = r ∧ b = σ') (Wd G) (AG G)) args s 0 0 (AG G)) 2 0 [(0, vR (40, 0, 0)), (1, vI a1)] [] σ
  unfold F_X11_rule at hF
  refine r_iload_n C 1 1 dX11_rule_0 rfl rfl ?_
  refine r_i2l C dX11_rule_1 ?_
  refine r_lconst (v := (0 : Int64)) C dX11_rule_2 rfl ?_
  refine r_ldc2_w (v := (8 : Int64)) C dX11_rule_3 t_5_220 ?_
  obtain ⟨r2, σ1, e3, hF⟩ := bd_e hF
  refine r_callS_i (as := [vL (a1.toInt64), vL (0 : Int64), vL (8 : Int64)]) (st := []) C dX11_rule_6 (s_X11_in G l e3) t_5_155 t_5_156 t_1_14 t_5_157 m_X11_in ⟨Nat.le_of_ble_eq_true rfl, Nat.le_of_ble_eq_true rfl⟩ ⟨rfl, rfl⟩ ⟨Nat.zero_le _, Nat.zero_le _⟩ rfl (Nat.le_of_ble_eq_true rfl) ?_
  refine r_if_eq C 21 dX11_rule_9 (by decide)  (fun h5 => ?_) (fun h5 => ?_)
  · have hF := if_t h5 hF
    refine r_iconst (v := (-1 : Int32)) C dX11_rule_21 rfl ?_
    exact r_ireturn C dX11_rule_22 (rt_e hF)
  · have hF := if_f h5 hF
    refine r_aload_n C 0 0 dX11_rule_12 rfl rfl ?_
    refine r_getR (kf := 2) (d2 := (43, 0, 0)) C dX11_rule_13 rfl rfl f_X11 (by decide) t_5_60 rfl rfl ?_
    refine r_iload_n C 1 1 dX11_rule_16 rfl rfl ?_
    obtain ⟨h4, hF⟩ := ck_e hF
    refine r_iaload C (a1.toNatClampNeg) dX11_rule_17 rfl h4 rfl ?_
    refine r_goto C 22 dX11_rule_18 (by decide) ?_
    exact r_ireturn C dX11_rule_22 (rt_e hF)
