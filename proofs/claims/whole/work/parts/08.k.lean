def F_X11_isLife (a0 : Int32) (σ : St) : Option (Int32 × St) :=
  bd (F_X11_in (a0.toInt64) (0 : Int64) (999 : Int64) σ) fun r2 σ1 => ck (decide (r2 = 0 ∨ r2 = 1)) (some (r2, σ1))
set_option maxRecDepth 20000 in
set_option maxHeartbeats 4000000 in
theorem s_X11_isLife (G : Gx) (l : Launch) {a0 : Int32} {σ σ' : St} {r : Int32} (hF : F_X11_isLife a0 σ = some (r, σ')) : Sp G l yX11_isLife cX11_isLife 1 (some .boolean) (lvl 1) [vI a0] σ (va_Qi (fun a b => a = r ∧ b = σ') (Wd G) (AG G)) := by
  refine Sp_of (own := RX11) (by decide) rfl (Nat.le_of_ble_eq_true rfl) ?_
  intro p e s m args below meth c C
  show Rt G p l e (lvl 1) s m args below meth c 0 0 (MQ below (va_Qi (fun a b => a = r ∧ b = σ') (Wd G) (AG G)) args s 0 0 (AG G)) 1 0 [(0, vI a0)] [] σ
  unfold F_X11_isLife at hF
  refine r_iload_n C 0 0 dX11_isLife_0 rfl rfl ?_
  refine r_i2l C dX11_isLife_1 ?_
  refine r_lconst (v := (0 : Int64)) C dX11_isLife_2 rfl ?_
  refine r_ldc2_w (v := (999 : Int64)) C dX11_isLife_3 t_6_190 ?_
  obtain ⟨r2, σ1, e3, hF⟩ := bd_e hF
  refine r_callS_i (as := [vL (a0.toInt64), vL (0 : Int64), vL (999 : Int64)]) (st := []) C dX11_isLife_6 (s_X11_in G l e3) t_5_155 t_5_156 t_1_14 t_5_157 m_X11_in ⟨Nat.le_of_ble_eq_true rfl, Nat.le_of_ble_eq_true rfl⟩ ⟨rfl, rfl⟩ ⟨Nat.zero_le _, Nat.zero_le _⟩ rfl (Nat.le_of_ble_eq_true rfl) ?_
  obtain ⟨h4, hF⟩ := ck_e hF
  exact r_zreturn C dX11_isLife_9 (nar_z (bz h4)) (rt_e hF)
def L_X11_hot_43 (c1 : Int32) (c2 : Int32) (c3 : Int32) (c4 : Int32) : Nat → Int32 → Int32 → Int32 → Int32 → St → (Int32 → Int32 → Int32 → St → Option (Int32 × St)) → Option (Int32 × St)
  | 0, _, _, _, _, _, _ => none
  | n + 1, v5, v6, v7, v8, τ, kx91 =>
  (if (99 : Int32) < v8 then kx91 v5 v6 v7 τ else bd (F_X11_lifeAt c1 v8 c3 τ) fun r11 σ10 => nam (fun (y13 : Int32) (y14 : Int32) (y15 : Int32) (σ17 : St) => nam (v8 + (1 : Int32)) fun x18 => L_X11_hot_43 c1 c2 c3 c4 n y13 y14 y15 x18 σ17 kx91) fun k16 => (if r11 = c2 then nam (v5 + (1 : Int32)) fun x19 => nam (fun (y20 : Int32) (σ22 : St) => k16 x19 y20 v8 σ22) fun k21 => (if v6 = (-4 : Int32) then k21 v8 σ10 else k21 v6 σ10) else k16 v5 v6 v7 σ10))
def F_X11_hot (a1 : Int32) (a2 : Int32) (a3 : Int32) (a4 : Int32) (σ : St) : Option (Int32 × St) :=
  bd (F_X11_isSize a1 σ) fun r2 σ1 => (if r2 = 0 then some ((-1 : Int32), σ1) else bd (F_X11_isLife a2 σ1) fun r5 σ4 => (if r5 = 0 then some ((-1 : Int32), σ4) else bd (F_X11_in (a4.toInt64) (0 : Int64) (2 : Int64) σ4) fun r8 σ7 => (if r8 = 0 then some ((-1 : Int32), σ7) else L_X11_hot_43 a1 a2 a3 a4 FU (0 : Int32) (-4 : Int32) (-4 : Int32) (0 : Int32) σ7 (fun (y27 : Int32) (y28 : Int32) (y29 : Int32) (σ26 : St) => (if a4 = 0 then some (y27, σ26) else (if a4 = (1 : Int32) then some (y28, σ26) else some (y29, σ26)))))))
set_option maxRecDepth 20000 in
set_option maxHeartbeats 4000000 in
theorem l_X11_hot_43 {G : Gx} {p : Program} {l : Launch} {e : Env} {s : State} {m : MethodId} {args : Array Value} {below : List Frame} {meth : Method} {c : Code} (C : Cx G p s m args meth c (some .int) 9 RX11 cX11_hot) (c1 : Int32) (c2 : Int32) (c3 : Int32) (c4 : Int32) {σ' : St} {r : Int32} (kx91 : Int32 → Int32 → Int32 → St → Option (Int32 × St)) (hkx91 : ∀ (w5 : Int32) (w6 : Int32) (w7 : Int32) (τ : St), kx91 w5 w6 w7 τ = some (r, σ') → Rt G p l e (lvl 4) s m args below meth c 0 0 (MQ below (va_Qi (fun a b => a = r ∧ b = σ') (Wd G) (AG G)) args s 0 0 (AG G)) 9 91 [(4, vI c4), (5, vI w5), (6, vI w6), (7, vI w7)] [] τ) : ∀ (n : Nat) (v5 : Int32) (v6 : Int32) (v7 : Int32) (v8 : Int32) (τ : St), L_X11_hot_43 c1 c2 c3 c4 n v5 v6 v7 v8 τ kx91 = some (r, σ') → Rt G p l e (lvl 4) s m args below meth c 0 0 (MQ below (va_Qi (fun a b => a = r ∧ b = σ') (Wd G) (AG G)) args s 0 0 (AG G)) 9 43 [(0, vR (40, 0, 0)), (1, vI c1), (2, vI c2), (3, vI c3), (4, vI c4), (5, vI v5), (6, vI v6), (7, vI v7), (8, vI v8)] [] τ := by
  intro n
  induction n with
  | zero => intro v5 v6 v7 v8 τ hF; cases hF
  | succ n ih =>
    intro v5 v6 v7 v8 τ hF
    unfold L_X11_hot_43 at hF
    refine r_iload C 8 dX11_hot_43 rfl ?_
    refine r_bipush (v := (99 : Int32)) C dX11_hot_45 rfl ?_
    refine r_icmp_gt C 91 dX11_hot_47 (by decide)  (fun h25 => ?_) (fun h25 => ?_)
    · have hF := if_t h25 hF
      refine r_drop (ls2 := [(4, vI c4), (5, vI v5), (6, vI v6), (7, vI v7)]) [4, 5, 6, 7] rfl ?_
      exact hkx91 _ _ _ _ hF
    · have hF := if_f h25 hF
      refine r_aload_n C 0 0 dX11_hot_50 rfl rfl ?_
      refine r_iload_n C 1 1 dX11_hot_51 rfl rfl ?_
      refine r_iload C 8 dX11_hot_52 rfl ?_
      refine r_iload_n C 3 3 dX11_hot_54 rfl rfl ?_
      obtain ⟨r11, σ10, e12, hF⟩ := bd_e hF
      refine r_callV_i (as := [vI c1, vI v8, vI c3]) (st := []) C dX11_hot_55 (s_X11_lifeAt G l e12) rfl rfl rfl t_6_166 t_6_168 t_s_53 t_1_14 t_6_169 m_X11_lifeAt ⟨Nat.le_of_ble_eq_true rfl, Nat.le_of_ble_eq_true rfl⟩ ⟨rfl, rfl⟩ ⟨Nat.zero_le _, Nat.zero_le _⟩ rfl (Nat.le_of_ble_eq_true rfl) ?_
      refine r_iload_n C 2 2 dX11_hot_58 rfl rfl ?_
      obtain ⟨k16, ek16, hF⟩ := nam_e hF
      have hk16 : ∀ (y13 : Int32) (y14 : Int32) (y15 : Int32) (σ17 : St), k16 y13 y14 y15 σ17 = some (r, σ') → Rt G p l e (lvl 4) s m args below meth c 0 0 (MQ below (va_Qi (fun a b => a = r ∧ b = σ') (Wd G) (AG G)) args s 0 0 (AG G)) 9 85 [(0, vR (40, 0, 0)), (1, vI c1), (2, vI c2), (3, vI c3), (4, vI c4), (5, vI y13), (6, vI y14), (7, vI y15), (8, vI v8)] [] σ17 := by
        intro y13 y14 y15 σ17 hF
        subst ek16
        obtain ⟨x18, ex18, hF⟩ := nam_e hF
        refine r_iinc (v := x18) (ls2 := [(8, vI x18), (0, vR (40, 0, 0)), (1, vI c1), (2, vI c2), (3, vI c3), (4, vI c4), (5, vI y13), (6, vI y14), (7, vI y15)]) C 8 dX11_hot_85 rfl ex18.symm (by decide) rfl ?_
        refine r_goto C 43 dX11_hot_88 (by decide) ?_
        refine r_drop (ls2 := [(0, vR (40, 0, 0)), (1, vI c1), (2, vI c2), (3, vI c3), (4, vI c4), (5, vI y13), (6, vI y14), (7, vI y15), (8, vI x18)]) [1, 2, 3, 4, 5, 6, 7, 8, 0] rfl ?_
        exact ih _ _ _ _ _ hF
      refine r_icmp_ne C 85 dX11_hot_59 (by decide)  (fun h24 => ?_) (fun h24 => ?_)
      · have hF := if_f h24 hF
        exact hk16 _ _ _ _ hF
      · have hF := if_t h24 hF
        obtain ⟨x19, ex19, hF⟩ := nam_e hF
        refine r_iinc (v := x19) (ls2 := [(5, vI x19), (0, vR (40, 0, 0)), (1, vI c1), (2, vI c2), (3, vI c3), (4, vI c4), (6, vI v6), (7, vI v7), (8, vI v8)]) C 5 dX11_hot_62 rfl ex19.symm (by decide) rfl ?_
        refine r_iload C 6 dX11_hot_65 rfl ?_
        refine r_bipush (v := (-4 : Int32)) C dX11_hot_67 rfl ?_
        obtain ⟨k21, ek21, hF⟩ := nam_e hF
        have hk21 : ∀ (y20 : Int32) (σ22 : St), k21 y20 σ22 = some (r, σ') → Rt G p l e (lvl 4) s m args below meth c 0 0 (MQ below (va_Qi (fun a b => a = r ∧ b = σ') (Wd G) (AG G)) args s 0 0 (AG G)) 9 79 [(0, vR (40, 0, 0)), (1, vI c1), (2, vI c2), (3, vI c3), (4, vI c4), (5, vI x19), (8, vI v8)] [vI y20] σ22 := by
          intro y20 σ22 hF
          subst ek21
          refine r_istore (ls2 := [(6, vI y20), (0, vR (40, 0, 0)), (1, vI c1), (2, vI c2), (3, vI c3), (4, vI c4), (5, vI x19), (8, vI v8)]) C dX11_hot_79 (by decide) rfl ?_
          refine r_iload C 7 dX11_hot_81 rfl ?_
          refine r_istore (ls2 := [(7, vI v8), (6, vI y20), (0, vR (40, 0, 0)), (1, vI c1), (2, vI c2), (3, vI c3), (4, vI c4), (5, vI x19), (8, vI v8)]) C dX11_hot_83 (by decide) rfl ?_
          refine r_drop (ls2 := [(0, vR (40, 0, 0)), (1, vI c1), (2, vI c2), (3, vI c3), (4, vI c4), (5, vI x19), (6, vI y20), (7, vI v8), (8, vI v8)]) [2, 3, 4, 5, 6, 7, 1, 0, 8] rfl ?_
          exact hk16 _ _ _ _ hF
        refine r_icmp_ne C 77 dX11_hot_69 (by decide)  (fun h23 => ?_) (fun h23 => ?_)
        · have hF := if_f h23 hF
          refine r_iload C 6 dX11_hot_77 rfl ?_
          refine r_drop (ls2 := [(0, vR (40, 0, 0)), (1, vI c1), (2, vI c2), (3, vI c3), (4, vI c4), (5, vI x19), (8, vI v8)]) [1, 2, 3, 4, 5, 0, 8] rfl ?_
          exact hk21 _ _ hF
        · have hF := if_t h23 hF
          refine r_iload C 8 dX11_hot_72 rfl ?_
          refine r_goto C 79 dX11_hot_74 (by decide) ?_
          refine r_drop (ls2 := [(0, vR (40, 0, 0)), (1, vI c1), (2, vI c2), (3, vI c3), (4, vI c4), (5, vI x19), (8, vI v8)]) [1, 2, 3, 4, 5, 0, 8] rfl ?_
          exact hk21 _ _ hF
set_option maxRecDepth 20000 in
set_option maxHeartbeats 4000000 in
theorem s_X11_hot (G : Gx) (l : Launch) {a1 : Int32} {a2 : Int32} {a3 : Int32} {a4 : Int32} {σ σ' : St} {r : Int32} (hF : F_X11_hot a1 a2 a3 a4 σ = some (r, σ')) : Sp G l yX11_hot cX11_hot 9 (some .int) (lvl 4) [vR (40, 0, 0), vI a1, vI a2, vI a3, vI a4] σ (va_Qi (fun a b => a = r ∧ b = σ') (Wd G) (AG G)) := by
  refine Sp_of (own := RX11) (by decide) rfl (Nat.le_of_ble_eq_true rfl) ?_
  intro p e s m args below meth c C
  show Rt G p l e (lvl 4) s m args below meth c 0 0 (MQ below (va_Qi (fun a b => a = r ∧ b = σ') (Wd G) (AG G)) args s 0 0 (AG G)) 9 0 [(0, vR (40, 0, 0)), (1, vI a1), (2, vI a2), (3, vI a3), (4, vI a4)] [] σ
  unfold F_X11_hot at hF
  refine r_iload_n C 1 1 dX11_hot_0 rfl rfl ?_
  obtain ⟨r2, σ1, e3, hF⟩ := bd_e hF
  refine r_callS_i (as := [vI a1]) (st := []) C dX11_hot_1 (s_X11_isSize G l e3) t_6_160 t_6_161 t_1_14 t_6_162 m_X11_isSize ⟨Nat.le_of_ble_eq_true rfl, Nat.le_of_ble_eq_true rfl⟩ ⟨rfl, rfl⟩ ⟨Nat.zero_le _, Nat.zero_le _⟩ rfl (Nat.le_of_ble_eq_true rfl) ?_
  refine r_if_eq C 27 dX11_hot_4 (by decide)  (fun h34 => ?_) (fun h34 => ?_)
  · have hF := if_t h34 hF
    refine r_iconst (v := (-1 : Int32)) C dX11_hot_27 rfl ?_
    exact r_ireturn C dX11_hot_28 (rt_e hF)
  · have hF := if_f h34 hF
    refine r_iload_n C 2 2 dX11_hot_7 rfl rfl ?_
    obtain ⟨r5, σ4, e6, hF⟩ := bd_e hF
    refine r_callS_i (as := [vI a2]) (st := []) C dX11_hot_8 (s_X11_isLife G l e6) t_6_187 t_6_188 t_1_14 t_6_189 m_X11_isLife ⟨Nat.le_of_ble_eq_true rfl, Nat.le_of_ble_eq_true rfl⟩ ⟨rfl, rfl⟩ ⟨Nat.zero_le _, Nat.zero_le _⟩ rfl (Nat.le_of_ble_eq_true rfl) ?_
    refine r_if_eq C 27 dX11_hot_11 (by decide)  (fun h33 => ?_) (fun h33 => ?_)
    · have hF := if_t h33 hF
      refine r_iconst (v := (-1 : Int32)) C dX11_hot_27 rfl ?_
      exact r_ireturn C dX11_hot_28 (rt_e hF)
    · have hF := if_f h33 hF
      refine r_iload C 4 dX11_hot_14 rfl ?_
      refine r_i2l C dX11_hot_16 ?_
      refine r_lconst (v := (0 : Int64)) C dX11_hot_17 rfl ?_
      refine r_ldc2_w (v := (2 : Int64)) C dX11_hot_18 t_6_141 ?_
      obtain ⟨r8, σ7, e9, hF⟩ := bd_e hF
      refine r_callS_i (as := [vL (a4.toInt64), vL (0 : Int64), vL (2 : Int64)]) (st := []) C dX11_hot_21 (s_X11_in G l e9) t_5_155 t_5_156 t_1_14 t_5_157 m_X11_in ⟨Nat.le_of_ble_eq_true rfl, Nat.le_of_ble_eq_true rfl⟩ ⟨rfl, rfl⟩ ⟨Nat.zero_le _, Nat.zero_le _⟩ rfl (Nat.le_of_ble_eq_true rfl) ?_
      refine r_if_ne C 29 dX11_hot_24 (by decide)  (fun h32 => ?_) (fun h32 => ?_)
      · have hF := if_f h32 hF
        refine r_iconst (v := (0 : Int32)) C dX11_hot_29 rfl ?_
        refine r_istore (ls2 := [(5, vI (0 : Int32)), (0, vR (40, 0, 0)), (1, vI a1), (2, vI a2), (3, vI a3), (4, vI a4)]) C dX11_hot_30 (by decide) rfl ?_
        refine r_bipush (v := (-4 : Int32)) C dX11_hot_32 rfl ?_
        refine r_istore (ls2 := [(6, vI (-4 : Int32)), (5, vI (0 : Int32)), (0, vR (40, 0, 0)), (1, vI a1), (2, vI a2), (3, vI a3), (4, vI a4)]) C dX11_hot_34 (by decide) rfl ?_
        refine r_bipush (v := (-4 : Int32)) C dX11_hot_36 rfl ?_
        refine r_istore (ls2 := [(7, vI (-4 : Int32)), (6, vI (-4 : Int32)), (5, vI (0 : Int32)), (0, vR (40, 0, 0)), (1, vI a1), (2, vI a2), (3, vI a3), (4, vI a4)]) C dX11_hot_38 (by decide) rfl ?_
        refine r_iconst (v := (0 : Int32)) C dX11_hot_40 rfl ?_
        refine r_istore (ls2 := [(8, vI (0 : Int32)), (7, vI (-4 : Int32)), (6, vI (-4 : Int32)), (5, vI (0 : Int32)), (0, vR (40, 0, 0)), (1, vI a1), (2, vI a2), (3, vI a3), (4, vI a4)]) C dX11_hot_41 (by decide) rfl ?_
        refine r_drop (ls2 := [(0, vR (40, 0, 0)), (1, vI a1), (2, vI a2), (3, vI a3), (4, vI a4), (5, vI (0 : Int32)), (6, vI (-4 : Int32)), (7, vI (-4 : Int32)), (8, vI (0 : Int32))]) [4, 5, 6, 7, 8, 3, 2, 1, 0] rfl ?_
        refine l_X11_hot_43 C a1 a2 a3 a4 _ ?_ _ _ _ _ _ _ hF
        · intro y27 y28 y29 σ26 hF
          refine r_iload C 0 dX11_hot_91 rfl ?_
          refine r_if_ne C 101 dX11_hot_93 (by decide)  (fun h31 => ?_) (fun h31 => ?_)
          · have hF := if_f h31 hF
            refine r_iload C 0 dX11_hot_101 rfl ?_
            refine r_iconst (v := (1 : Int32)) C dX11_hot_103 rfl ?_
            refine r_icmp_ne C 112 dX11_hot_104 (by decide)  (fun h30 => ?_) (fun h30 => ?_)
            · have hF := if_f h30 hF
              refine r_iload C 3 dX11_hot_112 rfl ?_
              exact r_ireturn C dX11_hot_114 (rt_e hF)
            · have hF := if_t h30 hF
              refine r_iload C 2 dX11_hot_107 rfl ?_
              refine r_goto C 114 dX11_hot_109 (by decide) ?_
              exact r_ireturn C dX11_hot_114 (rt_e hF)
          · have hF := if_t h31 hF
            refine r_iload C 1 dX11_hot_96 rfl ?_
            refine r_goto C 114 dX11_hot_98 (by decide) ?_
            exact r_ireturn C dX11_hot_114 (rt_e hF)
      · have hF := if_t h32 hF
        refine r_iconst (v := (-1 : Int32)) C dX11_hot_27 rfl ?_
        exact r_ireturn C dX11_hot_28 (rt_e hF)
def L_X11_spreads_5 (c1 : Int32) (c2 : Int64) : Nat → Int32 → St → (St → Option (Int64 × St)) → Option (Int64 × St)
  | 0, _, _, _ => none
  | n + 1, v4, τ, kx26 =>
  (if (96 : Int32) ≤ v4 then kx26  τ else ck (inb v4 96) (nam (uL τ (50, 0, 0) (v4.toNatClampNeg) (0 : Int64)) fun σ2 => nam (v4 + (1 : Int32)) fun x3 => L_X11_spreads_5 c1 c2 n x3 σ2 kx26))
def L_X11_spreads_39 (c1 : Int32) (c4 : Int32) : Nat → Int64 → Int32 → St → (Int64 → St → Option (Int64 × St)) → Option (Int64 × St)
  | 0, _, _, _, _ => none
  | n + 1, v2, v5, τ, kx170 =>
  (if (4 : Int32) ≤ v5 then kx170 v2 τ else ck (inb c4 96) ((if (lg_cmp (τ.2 (49, 0, 0) (c4.toNatClampNeg)) (0 : Int64)) ≤ 0 then kx170 v2 τ else ck (inb c4 576) (nam (fun (y8 : Int32) (σ10 : St) => bd (F_X11_nextTo c4 y8 σ10) fun r12 σ11 => ck (inb c4 576) (nam (fun (y15 : Int32) (σ17 : St) => nam (fun (y18 : Int64) (σ20 : St) => nam (v2 + y18) fun x21 => ck (inb y15 96) (nam (fun (y23 : Int64) (σ25 : St) => ck (inb y15 96) (nam (uL σ25 (50, 0, 0) (y15.toNatClampNeg) ((σ20.2 (50, 0, 0) (y15.toNatClampNeg)) + y23)) fun σ27 => nam (v5 + (1 : Int32)) fun x28 => L_X11_spreads_39 c1 c4 n x21 x28 σ27 kx170)) fun k24 => (if y15 = c1 then k24 (0 : Int64) σ20 else ck (inb c4 96) (k24 (σ20.2 (49, 0, 0) (c4.toNatClampNeg)) σ20)))) fun k19 => (if y15 = c1 then ck (inb c4 96) (k19 (σ17.2 (49, 0, 0) (c4.toNatClampNeg)) σ17) else k19 (0 : Int64) σ17)) fun k16 => (if (σ11.1 (41, 0, 0) (c4.toNatClampNeg)) = (6 : Int32) then k16 c4 σ11 else bd (F_X11_isWall r12 σ11) fun r34 σ33 => (if r34 = 0 then k16 r12 σ33 else k16 c4 σ33)))) fun k9 => (if (4 : Int32) ≤ (τ.1 (41, 0, 0) (c4.toNatClampNeg)) then k9 v5 τ else ck (inb c4 576) (k9 (τ.1 (41, 0, 0) (c4.toNatClampNeg)) τ))))))
def L_X11_spreads_29 (c1 : Int32) : Nat → Int64 → Int32 → St → (Int64 → St → Option (Int64 × St)) → Option (Int64 × St)
  | 0, _, _, _, _ => none
  | n + 1, v2, v4, τ, kx176 =>
  (if (96 : Int32) ≤ v4 then kx176 v2 τ else L_X11_spreads_39 c1 v4 FU v2 (0 : Int32) τ (fun (y43 : Int64) (σ42 : St) => nam (v4 + (1 : Int32)) fun x44 => L_X11_spreads_29 c1 n y43 x44 σ42 kx176))
def L_X11_spreads_179 (c2 : Int64) : Nat → Int32 → St → Option (Int64 × St)
  | 0, _, _ => none
  | n + 1, v4, τ =>
  (if (96 : Int32) ≤ v4 then some (c2, τ) else ck (inb v4 96) (ck (inb v4 96) (nam (uL τ (49, 0, 0) (v4.toNatClampNeg) (τ.2 (50, 0, 0) (v4.toNatClampNeg))) fun σ50 => nam (v4 + (1 : Int32)) fun x51 => L_X11_spreads_179 c2 n x51 σ50)))
def F_X11_spreads (a1 : Int32) (σ : St) : Option (Int64 × St) :=
  L_X11_spreads_5 a1 (0 : Int64) FU (0 : Int32) σ (fun  (σ5 : St) => L_X11_spreads_29 a1 FU (0 : Int64) (0 : Int32) σ5 (fun (y47 : Int64) (σ46 : St) => L_X11_spreads_179 y47 FU (0 : Int32) σ46 ))
set_option maxRecDepth 20000 in
set_option maxHeartbeats 4000000 in
theorem l_X11_spreads_5 {G : Gx} {p : Program} {l : Launch} {e : Env} {s : State} {m : MethodId} {args : Array Value} {below : List Frame} {meth : Method} {c : Code} (C : Cx G p s m args meth c (some .long) 8 RX11 cX11_spreads) (c1 : Int32) (c2 : Int64) {σ' : St} {r : Int64} (kx26 : St → Option (Int64 × St)) (hkx26 : ∀  (τ : St), kx26  τ = some (r, σ') → Rt G p l e (lvl 2) s m args below meth c 0 0 (MQ below (va_Ql (fun a b => a = r ∧ b = σ') (Wd G) (AG G)) args s 0 0 (AG G)) 8 26 [(0, vR (40, 0, 0)), (1, vI c1), (2, vL c2)] [] τ) : ∀ (n : Nat) (v4 : Int32) (τ : St), L_X11_spreads_5 c1 c2 n v4 τ kx26 = some (r, σ') → Rt G p l e (lvl 2) s m args below meth c 0 0 (MQ below (va_Ql (fun a b => a = r ∧ b = σ') (Wd G) (AG G)) args s 0 0 (AG G)) 8 5 [(0, vR (40, 0, 0)), (1, vI c1), (2, vL c2), (4, vI v4)] [] τ := by
  intro n
  induction n with
  | zero => intro v4 τ hF; cases hF
  | succ n ih =>
    intro v4 τ hF
    unfold L_X11_spreads_5 at hF
    refine r_iload C 3 dX11_spreads_5 rfl ?_
    refine r_bipush (v := (96 : Int32)) C dX11_spreads_7 rfl ?_
    refine r_icmp_ge C 26 dX11_spreads_9 (by decide)  (fun h4 => ?_) (fun h4 => ?_)
    · have hF := if_t h4 hF
      refine r_drop (ls2 := [(0, vR (40, 0, 0)), (1, vI c1), (2, vL c2)]) [0, 1, 2] rfl ?_
      exact hkx26 _ hF
    · have hF := if_f h4 hF
      refine r_aload_n C 0 0 dX11_spreads_12 rfl rfl ?_
      refine r_getR (kf := 22) (d2 := (50, 0, 0)) C dX11_spreads_13 rfl rfl f_X11 (by decide) t_5_80 rfl rfl ?_
      refine r_iload C 3 dX11_spreads_16 rfl ?_
      refine r_lconst (v := (0 : Int64)) C dX11_spreads_18 rfl ?_
      obtain ⟨h1, hF⟩ := ck_e hF
      obtain ⟨σ2, eσ2, hF⟩ := nam_e hF
      refine r_lastore C (v4.toNatClampNeg) dX11_spreads_19 rfl h1 rfl eσ2 ?_
      obtain ⟨x3, ex3, hF⟩ := nam_e hF
      refine r_iinc (v := x3) (ls2 := [(4, vI x3), (0, vR (40, 0, 0)), (1, vI c1), (2, vL c2)]) C 3 dX11_spreads_20 rfl ex3.symm (by decide) rfl ?_
      refine r_goto C 5 dX11_spreads_23 (by decide) ?_
      refine r_drop (ls2 := [(0, vR (40, 0, 0)), (1, vI c1), (2, vL c2), (4, vI x3)]) [1, 2, 3, 0] rfl ?_
      exact ih _ _ hF
set_option maxRecDepth 20000 in
set_option maxHeartbeats 4000000 in
theorem l_X11_spreads_39 {G : Gx} {p : Program} {l : Launch} {e : Env} {s : State} {m : MethodId} {args : Array Value} {below : List Frame} {meth : Method} {c : Code} (C : Cx G p s m args meth c (some .long) 8 RX11 cX11_spreads) (c1 : Int32) (c4 : Int32) {σ' : St} {r : Int64} (kx170 : Int64 → St → Option (Int64 × St)) (hkx170 : ∀ (w2 : Int64) (τ : St), kx170 w2 τ = some (r, σ') → Rt G p l e (lvl 2) s m args below meth c 0 0 (MQ below (va_Ql (fun a b => a = r ∧ b = σ') (Wd G) (AG G)) args s 0 0 (AG G)) 8 170 [(0, vR (40, 0, 0)), (1, vI c1), (2, vL w2), (4, vI c4)] [] τ) : ∀ (n : Nat) (v2 : Int64) (v5 : Int32) (τ : St), L_X11_spreads_39 c1 c4 n v2 v5 τ kx170 = some (r, σ') → Rt G p l e (lvl 2) s m args below meth c 0 0 (MQ below (va_Ql (fun a b => a = r ∧ b = σ') (Wd G) (AG G)) args s 0 0 (AG G)) 8 39 [(0, vR (40, 0, 0)), (1, vI c1), (2, vL v2), (4, vI c4), (5, vI v5)] [] τ := by
  intro n
  induction n with
  | zero => intro v2 v5 τ hF; cases hF
  | succ n ih =>
    intro v2 v5 τ hF
    unfold L_X11_spreads_39 at hF
    refine r_iload C 4 dX11_spreads_39 rfl ?_
    refine r_iconst (v := (4 : Int32)) C dX11_spreads_41 rfl ?_
    refine r_icmp_ge C 170 dX11_spreads_42 (by decide)  (fun h41 => ?_) (fun h41 => ?_)
    · have hF := if_t h41 hF
      refine r_drop (ls2 := [(0, vR (40, 0, 0)), (1, vI c1), (2, vL v2), (4, vI c4)]) [0, 1, 2, 3] rfl ?_
      exact hkx170 _ _ hF
    · have hF := if_f h41 hF
      refine r_aload_n C 0 0 dX11_spreads_45 rfl rfl ?_
      refine r_getR (kf := 21) (d2 := (49, 0, 0)) C dX11_spreads_46 rfl rfl f_X11 (by decide) t_5_79 rfl rfl ?_
      refine r_iload C 3 dX11_spreads_49 rfl ?_
      obtain ⟨h6, hF⟩ := ck_e hF
      refine r_laload C (c4.toNatClampNeg) dX11_spreads_51 rfl h6 rfl ?_
      refine r_lconst (v := (0 : Int64)) C dX11_spreads_52 rfl ?_
      refine r_lcmp C dX11_spreads_53 ?_
      refine r_if_le C 170 dX11_spreads_54 (by decide)  (fun h40 => ?_) (fun h40 => ?_)
      · have hF := if_t h40 hF
        refine r_drop (ls2 := [(0, vR (40, 0, 0)), (1, vI c1), (2, vL v2), (4, vI c4)]) [0, 1, 2, 3] rfl ?_
        exact hkx170 _ _ hF
      · have hF := if_f h40 hF
        refine r_iload C 3 dX11_spreads_57 rfl ?_
        refine r_aload_n C 0 0 dX11_spreads_59 rfl rfl ?_
        refine r_getR (kf := 0) (d2 := (41, 0, 0)) C dX11_spreads_60 rfl rfl f_X11 (by decide) t_5_58 rfl rfl ?_
        refine r_iload C 3 dX11_spreads_63 rfl ?_
        obtain ⟨h7, hF⟩ := ck_e hF
        refine r_iaload C (c4.toNatClampNeg) dX11_spreads_65 rfl h7 rfl ?_
        refine r_iconst (v := (4 : Int32)) C dX11_spreads_66 rfl ?_
        obtain ⟨k9, ek9, hF⟩ := nam_e hF
        have hk9 : ∀ (y8 : Int32) (σ10 : St), k9 y8 σ10 = some (r, σ') → Rt G p l e (lvl 2) s m args below meth c 0 0 (MQ below (va_Ql (fun a b => a = r ∧ b = σ') (Wd G) (AG G)) args s 0 0 (AG G)) 8 82 [(0, vR (40, 0, 0)), (1, vI c1), (2, vL v2), (4, vI c4), (5, vI v5)] [vI y8, vI c4] σ10 := by
          intro y8 σ10 hF
          subst ek9
          obtain ⟨r12, σ11, e13, hF⟩ := bd_e hF
          refine r_callS_i (as := [vI c4, vI y8]) (st := []) C dX11_spreads_82 (s_X11_nextTo G l e13) t_6_64 t_6_65 t_1_14 t_6_66 m_X11_nextTo ⟨Nat.le_of_ble_eq_true rfl, Nat.le_of_ble_eq_true rfl⟩ ⟨rfl, rfl⟩ ⟨Nat.zero_le _, Nat.zero_le _⟩ rfl (Nat.le_of_ble_eq_true rfl) ?_
          refine r_istore (ls2 := [(6, vI r12), (0, vR (40, 0, 0)), (1, vI c1), (2, vL v2), (4, vI c4), (5, vI v5)]) C dX11_spreads_85 (by decide) rfl ?_
          refine r_aload_n C 1 0 dX11_spreads_87 rfl rfl ?_
          refine r_getR (kf := 0) (d2 := (41, 0, 0)) C dX11_spreads_88 rfl rfl f_X11 (by decide) t_5_58 rfl rfl ?_
          refine r_iload C 4 dX11_spreads_91 rfl ?_
          obtain ⟨h14, hF⟩ := ck_e hF
          refine r_iaload C (c4.toNatClampNeg) dX11_spreads_93 rfl h14 rfl ?_
          refine r_bipush (v := (6 : Int32)) C dX11_spreads_94 rfl ?_
          obtain ⟨k16, ek16, hF⟩ := nam_e hF
          have hk16 : ∀ (y15 : Int32) (σ17 : St), k16 y15 σ17 = some (r, σ') → Rt G p l e (lvl 2) s m args below meth c 0 0 (MQ below (va_Ql (fun a b => a = r ∧ b = σ') (Wd G) (AG G)) args s 0 0 (AG G)) 8 115 [(0, vR (40, 0, 0)), (1, vI c1), (2, vL v2), (4, vI c4), (5, vI v5)] [vI y15] σ17 := by
            intro y15 σ17 hF
            subst ek16
            refine r_istore (ls2 := [(7, vI y15), (0, vR (40, 0, 0)), (1, vI c1), (2, vL v2), (4, vI c4), (5, vI v5)]) C dX11_spreads_115 (by decide) rfl ?_
            refine r_lload_n C 3 2 dX11_spreads_117 rfl rfl ?_
            refine r_iload C 0 dX11_spreads_118 rfl ?_
            refine r_iload_n C 2 1 dX11_spreads_120 rfl rfl ?_
            obtain ⟨k19, ek19, hF⟩ := nam_e hF
            have hk19 : ∀ (y18 : Int64) (σ20 : St), k19 y18 σ20 = some (r, σ') → Rt G p l e (lvl 2) s m args below meth c 0 0 (MQ below (va_Ql (fun a b => a = r ∧ b = σ') (Wd G) (AG G)) args s 0 0 (AG G)) 8 135 [(0, vR (40, 0, 0)), (1, vI c1), (4, vI c4), (5, vI v5), (7, vI y15)] [vL y18, vL v2] σ20 := by
              intro y18 σ20 hF
              subst ek19
              refine r_ladd C dX11_spreads_135 ?_
              obtain ⟨x21, ex21, hF⟩ := nam_e hF
              refine r_topL ex21 ?_
              refine r_lstore_n (ls2 := [(2, vL x21), (0, vR (40, 0, 0)), (1, vI c1), (4, vI c4), (5, vI v5), (7, vI y15)]) C dX11_spreads_136 2 rfl (by decide) rfl ?_
              refine r_aload_n C 1 0 dX11_spreads_137 rfl rfl ?_
              refine r_getR (kf := 22) (d2 := (50, 0, 0)) C dX11_spreads_138 rfl rfl f_X11 (by decide) t_5_80 rfl rfl ?_
              refine r_iload C 5 dX11_spreads_141 rfl ?_
              refine r_dup2_ri C dX11_spreads_143 ?_
              obtain ⟨h22, hF⟩ := ck_e hF
              refine r_laload C (y15.toNatClampNeg) dX11_spreads_144 rfl h22 rfl ?_
              refine r_iload C 5 dX11_spreads_145 rfl ?_
              refine r_iload_n C 2 1 dX11_spreads_147 rfl rfl ?_
              obtain ⟨k24, ek24, hF⟩ := nam_e hF
              have hk24 : ∀ (y23 : Int64) (σ25 : St), k24 y23 σ25 = some (r, σ') → Rt G p l e (lvl 2) s m args below meth c 0 0 (MQ below (va_Ql (fun a b => a = r ∧ b = σ') (Wd G) (AG G)) args s 0 0 (AG G)) 8 162 [(0, vR (40, 0, 0)), (1, vI c1), (2, vL x21), (4, vI c4), (5, vI v5)] [vL y23, vL (σ20.2 (50, 0, 0) (y15.toNatClampNeg)), vI y15, vR (50, 0, 0)] σ25 := by
                intro y23 σ25 hF
                subst ek24
                refine r_ladd C dX11_spreads_162 ?_
                obtain ⟨h26, hF⟩ := ck_e hF
                obtain ⟨σ27, eσ27, hF⟩ := nam_e hF
                refine r_lastore C (y15.toNatClampNeg) dX11_spreads_163 rfl h26 rfl eσ27 ?_
                obtain ⟨x28, ex28, hF⟩ := nam_e hF
                refine r_iinc (v := x28) (ls2 := [(5, vI x28), (0, vR (40, 0, 0)), (1, vI c1), (2, vL x21), (4, vI c4)]) C 4 dX11_spreads_164 rfl ex28.symm (by decide) rfl ?_
                refine r_goto C 39 dX11_spreads_167 (by decide) ?_
                refine r_drop (ls2 := [(0, vR (40, 0, 0)), (1, vI c1), (2, vL x21), (4, vI c4), (5, vI x28)]) [1, 2, 3, 4, 0] rfl ?_
                exact ih _ _ _ hF
              refine r_icmp_ne C 155 dX11_spreads_148 (by decide)  (fun h30 => ?_) (fun h30 => ?_)
              · have hF := if_f h30 hF
                refine r_aload_n C 1 0 dX11_spreads_155 rfl rfl ?_
                refine r_getR (kf := 21) (d2 := (49, 0, 0)) C dX11_spreads_156 rfl rfl f_X11 (by decide) t_5_79 rfl rfl ?_
                refine r_iload C 3 dX11_spreads_159 rfl ?_
                obtain ⟨h29, hF⟩ := ck_e hF
                refine r_laload C (c4.toNatClampNeg) dX11_spreads_161 rfl h29 rfl ?_
                refine r_drop (ls2 := [(0, vR (40, 0, 0)), (1, vI c1), (2, vL x21), (4, vI c4), (5, vI v5)]) [1, 2, 0, 3, 4] rfl ?_
                exact hk24 _ _ hF
              · have hF := if_t h30 hF
                refine r_lconst (v := (0 : Int64)) C dX11_spreads_151 rfl ?_
                refine r_goto C 162 dX11_spreads_152 (by decide) ?_
                refine r_drop (ls2 := [(0, vR (40, 0, 0)), (1, vI c1), (2, vL x21), (4, vI c4), (5, vI v5)]) [1, 2, 0, 3, 4] rfl ?_
                exact hk24 _ _ hF
            refine r_icmp_ne C 134 dX11_spreads_121 (by decide)  (fun h32 => ?_) (fun h32 => ?_)
            · have hF := if_f h32 hF
              refine r_lconst (v := (0 : Int64)) C dX11_spreads_134 rfl ?_
              refine r_drop (ls2 := [(0, vR (40, 0, 0)), (1, vI c1), (4, vI c4), (5, vI v5), (7, vI y15)]) [1, 2, 4, 5, 0] rfl ?_
              exact hk19 _ _ hF
            · have hF := if_t h32 hF
              refine r_aload_n C 1 0 dX11_spreads_124 rfl rfl ?_
              refine r_getR (kf := 21) (d2 := (49, 0, 0)) C dX11_spreads_125 rfl rfl f_X11 (by decide) t_5_79 rfl rfl ?_
              refine r_iload C 4 dX11_spreads_128 rfl ?_
              obtain ⟨h31, hF⟩ := ck_e hF
              refine r_laload C (c4.toNatClampNeg) dX11_spreads_130 rfl h31 rfl ?_
              refine r_goto C 135 dX11_spreads_131 (by decide) ?_
              refine r_drop (ls2 := [(0, vR (40, 0, 0)), (1, vI c1), (4, vI c4), (5, vI v5), (7, vI y15)]) [1, 2, 4, 5, 0] rfl ?_
              exact hk19 _ _ hF
          refine r_icmp_eq C 108 dX11_spreads_96 (by decide)  (fun h37 => ?_) (fun h37 => ?_)
          · have hF := if_t h37 hF
            refine r_iload C 4 dX11_spreads_108 rfl ?_
            refine r_goto C 115 dX11_spreads_110 (by decide) ?_
            refine r_drop (ls2 := [(0, vR (40, 0, 0)), (1, vI c1), (2, vL v2), (4, vI c4), (5, vI v5)]) [1, 2, 3, 4, 5] rfl ?_
            exact hk16 _ _ hF
          · have hF := if_f h37 hF
            refine r_aload_n C 1 0 dX11_spreads_99 rfl rfl ?_
            refine r_iload C 0 dX11_spreads_100 rfl ?_
            obtain ⟨r34, σ33, e35, hF⟩ := bd_e hF
            refine r_callV_i (as := [vI r12]) (st := []) C dX11_spreads_102 (s_X11_isWall G l e35) rfl rfl rfl t_6_68 t_6_70 t_s_44 t_1_14 t_6_71 m_X11_isWall ⟨Nat.le_of_ble_eq_true rfl, Nat.le_of_ble_eq_true rfl⟩ ⟨rfl, rfl⟩ ⟨Nat.zero_le _, Nat.zero_le _⟩ rfl (Nat.le_of_ble_eq_true rfl) ?_
            refine r_if_eq C 113 dX11_spreads_105 (by decide)  (fun h36 => ?_) (fun h36 => ?_)
            · have hF := if_t h36 hF
              refine r_iload C 0 dX11_spreads_113 rfl ?_
              refine r_drop (ls2 := [(0, vR (40, 0, 0)), (1, vI c1), (2, vL v2), (4, vI c4), (5, vI v5)]) [1, 2, 3, 4, 5] rfl ?_
              exact hk16 _ _ hF
            · have hF := if_f h36 hF
              refine r_iload C 4 dX11_spreads_108 rfl ?_
              refine r_goto C 115 dX11_spreads_110 (by decide) ?_
              refine r_drop (ls2 := [(0, vR (40, 0, 0)), (1, vI c1), (2, vL v2), (4, vI c4), (5, vI v5)]) [1, 2, 3, 4, 5] rfl ?_
              exact hk16 _ _ hF
        refine r_icmp_ge C 80 dX11_spreads_67 (by decide)  (fun h39 => ?_) (fun h39 => ?_)
        · have hF := if_t h39 hF
          refine r_iload C 4 dX11_spreads_80 rfl ?_
          exact hk9 _ _ hF
        · have hF := if_f h39 hF
          refine r_aload_n C 0 0 dX11_spreads_70 rfl rfl ?_
          refine r_getR (kf := 0) (d2 := (41, 0, 0)) C dX11_spreads_71 rfl rfl f_X11 (by decide) t_5_58 rfl rfl ?_
          refine r_iload C 3 dX11_spreads_74 rfl ?_
          obtain ⟨h38, hF⟩ := ck_e hF
          refine r_iaload C (c4.toNatClampNeg) dX11_spreads_76 rfl h38 rfl ?_
          refine r_goto C 82 dX11_spreads_77 (by decide) ?_
          exact hk9 _ _ hF
set_option maxRecDepth 20000 in
set_option maxHeartbeats 4000000 in
theorem l_X11_spreads_29 {G : Gx} {p : Program} {l : Launch} {e : Env} {s : State} {m : MethodId} {args : Array Value} {below : List Frame} {meth : Method} {c : Code} (C : Cx G p s m args meth c (some .long) 8 RX11 cX11_spreads) (c1 : Int32) {σ' : St} {r : Int64} (kx176 : Int64 → St → Option (Int64 × St)) (hkx176 : ∀ (w2 : Int64) (τ : St), kx176 w2 τ = some (r, σ') → Rt G p l e (lvl 2) s m args below meth c 0 0 (MQ below (va_Ql (fun a b => a = r ∧ b = σ') (Wd G) (AG G)) args s 0 0 (AG G)) 8 176 [(0, vR (40, 0, 0)), (2, vL w2)] [] τ) : ∀ (n : Nat) (v2 : Int64) (v4 : Int32) (τ : St), L_X11_spreads_29 c1 n v2 v4 τ kx176 = some (r, σ') → Rt G p l e (lvl 2) s m args below meth c 0 0 (MQ below (va_Ql (fun a b => a = r ∧ b = σ') (Wd G) (AG G)) args s 0 0 (AG G)) 8 29 [(0, vR (40, 0, 0)), (1, vI c1), (2, vL v2), (4, vI v4)] [] τ := by
  intro n
  induction n with
  | zero => intro v2 v4 τ hF; cases hF
  | succ n ih =>
    intro v2 v4 τ hF
    unfold L_X11_spreads_29 at hF
    refine r_iload C 3 dX11_spreads_29 rfl ?_
    refine r_bipush (v := (96 : Int32)) C dX11_spreads_31 rfl ?_
    refine r_icmp_ge C 176 dX11_spreads_33 (by decide)  (fun h45 => ?_) (fun h45 => ?_)
    · have hF := if_t h45 hF
      refine r_drop (ls2 := [(0, vR (40, 0, 0)), (2, vL v2)]) [0, 2] rfl ?_
      exact hkx176 _ _ hF
    · have hF := if_f h45 hF
      refine r_iconst (v := (0 : Int32)) C dX11_spreads_36 rfl ?_
      refine r_istore (ls2 := [(5, vI (0 : Int32)), (0, vR (40, 0, 0)), (1, vI c1), (2, vL v2), (4, vI v4)]) C dX11_spreads_37 (by decide) rfl ?_
      refine r_drop (ls2 := [(0, vR (40, 0, 0)), (1, vI c1), (2, vL v2), (4, vI v4), (5, vI (0 : Int32))]) [1, 2, 3, 4, 0] rfl ?_
      refine l_X11_spreads_39 C c1 v4 _ ?_ _ _ _ _ hF
      · intro y43 σ42 hF
        obtain ⟨x44, ex44, hF⟩ := nam_e hF
        refine r_iinc (v := x44) (ls2 := [(4, vI x44), (0, vR (40, 0, 0)), (1, vI c1), (2, vL y43)]) C 3 dX11_spreads_170 rfl ex44.symm (by decide) rfl ?_
        refine r_goto C 29 dX11_spreads_173 (by decide) ?_
        refine r_drop (ls2 := [(0, vR (40, 0, 0)), (1, vI c1), (2, vL y43), (4, vI x44)]) [1, 2, 3, 0] rfl ?_
        exact ih _ _ _ hF
set_option maxRecDepth 20000 in
set_option maxHeartbeats 4000000 in
theorem l_X11_spreads_179 {G : Gx} {p : Program} {l : Launch} {e : Env} {s : State} {m : MethodId} {args : Array Value} {below : List Frame} {meth : Method} {c : Code} (C : Cx G p s m args meth c (some .long) 8 RX11 cX11_spreads) (c2 : Int64) {σ' : St} {r : Int64} : ∀ (n : Nat) (v4 : Int32) (τ : St), L_X11_spreads_179 c2 n v4 τ = some (r, σ') → Rt G p l e (lvl 2) s m args below meth c 0 0 (MQ below (va_Ql (fun a b => a = r ∧ b = σ') (Wd G) (AG G)) args s 0 0 (AG G)) 8 179 [(0, vR (40, 0, 0)), (2, vL c2), (4, vI v4)] [] τ := by
  intro n
  induction n with
  | zero => intro v4 τ hF; cases hF
  | succ n ih =>
    intro v4 τ hF
    unfold L_X11_spreads_179 at hF
    refine r_iload C 2 dX11_spreads_179 rfl ?_
    refine r_bipush (v := (96 : Int32)) C dX11_spreads_181 rfl ?_
    refine r_icmp_ge C 206 dX11_spreads_183 (by decide)  (fun h52 => ?_) (fun h52 => ?_)
    · have hF := if_t h52 hF
      refine r_lload_n C 1 2 dX11_spreads_206 rfl rfl ?_
      exact r_lreturn C dX11_spreads_207 (rt_e hF)
    · have hF := if_f h52 hF
      refine r_aload_n C 0 0 dX11_spreads_186 rfl rfl ?_
      refine r_getR (kf := 21) (d2 := (49, 0, 0)) C dX11_spreads_187 rfl rfl f_X11 (by decide) t_5_79 rfl rfl ?_
      refine r_iload C 2 dX11_spreads_190 rfl ?_
      refine r_aload_n C 0 0 dX11_spreads_192 rfl rfl ?_
      refine r_getR (kf := 22) (d2 := (50, 0, 0)) C dX11_spreads_193 rfl rfl f_X11 (by decide) t_5_80 rfl rfl ?_
      refine r_iload C 2 dX11_spreads_196 rfl ?_
      obtain ⟨h48, hF⟩ := ck_e hF
      refine r_laload C (v4.toNatClampNeg) dX11_spreads_198 rfl h48 rfl ?_
      obtain ⟨h49, hF⟩ := ck_e hF
      obtain ⟨σ50, eσ50, hF⟩ := nam_e hF
      refine r_lastore C (v4.toNatClampNeg) dX11_spreads_199 rfl h49 rfl eσ50 ?_
      obtain ⟨x51, ex51, hF⟩ := nam_e hF
      refine r_iinc (v := x51) (ls2 := [(4, vI x51), (0, vR (40, 0, 0)), (2, vL c2)]) C 2 dX11_spreads_200 rfl ex51.symm (by decide) rfl ?_
      refine r_goto C 179 dX11_spreads_203 (by decide) ?_
      refine r_drop (ls2 := [(0, vR (40, 0, 0)), (2, vL c2), (4, vI x51)]) [1, 2, 0] rfl ?_
      exact ih _ _ hF
set_option maxRecDepth 20000 in
set_option maxHeartbeats 4000000 in
theorem s_X11_spreads (G : Gx) (l : Launch) {a1 : Int32} {σ σ' : St} {r : Int64} (hF : F_X11_spreads a1 σ = some (r, σ')) : Sp G l yX11_spreads cX11_spreads 8 (some .long) (lvl 2) [vR (40, 0, 0), vI a1] σ (va_Ql (fun a b => a = r ∧ b = σ') (Wd G) (AG G)) := by
  refine Sp_of (own := RX11) (by decide) rfl (Nat.le_of_ble_eq_true rfl) ?_
  intro p e s m args below meth c C
  show Rt G p l e (lvl 2) s m args below meth c 0 0 (MQ below (va_Ql (fun a b => a = r ∧ b = σ') (Wd G) (AG G)) args s 0 0 (AG G)) 8 0 [(0, vR (40, 0, 0)), (1, vI a1)] [] σ
  unfold F_X11_spreads at hF
  refine r_lconst (v := (0 : Int64)) C dX11_spreads_0 rfl ?_
  refine r_lstore_n (ls2 := [(2, vL (0 : Int64)), (0, vR (40, 0, 0)), (1, vI a1)]) C dX11_spreads_1 2 rfl (by decide) rfl ?_
  refine r_iconst (v := (0 : Int32)) C dX11_spreads_2 rfl ?_
  refine r_istore (ls2 := [(4, vI (0 : Int32)), (2, vL (0 : Int64)), (0, vR (40, 0, 0)), (1, vI a1)]) C dX11_spreads_3 (by decide) rfl ?_
  refine r_drop (ls2 := [(0, vR (40, 0, 0)), (1, vI a1), (2, vL (0 : Int64)), (4, vI (0 : Int32))]) [2, 3, 1, 0] rfl ?_
  refine l_X11_spreads_5 C a1 (0 : Int64) _ ?_ _ _ _ hF
  · intro  σ5 hF
    refine r_iconst (v := (0 : Int32)) C dX11_spreads_26 rfl ?_
    refine r_istore (ls2 := [(4, vI (0 : Int32)), (0, vR (40, 0, 0)), (1, vI a1), (2, vL (0 : Int64))]) C dX11_spreads_27 (by decide) rfl ?_
    refine r_drop (ls2 := [(0, vR (40, 0, 0)), (1, vI a1), (2, vL (0 : Int64)), (4, vI (0 : Int32))]) [1, 2, 3, 0] rfl ?_
    refine l_X11_spreads_29 C a1 _ ?_ _ _ _ _ hF
    · intro y47 σ46 hF
      refine r_iconst (v := (0 : Int32)) C dX11_spreads_176 rfl ?_
      refine r_istore (ls2 := [(4, vI (0 : Int32)), (0, vR (40, 0, 0)), (2, vL y47)]) C dX11_spreads_177 (by decide) rfl ?_
      refine r_drop (ls2 := [(0, vR (40, 0, 0)), (2, vL y47), (4, vI (0 : Int32))]) [1, 2, 0] rfl ?_
      refine l_X11_spreads_179 C y47  _ _ _ hF
def L_X11_told_6 (c0 : Int64) (c2 : Int64) (c4 : Int32) : Nat → Int64 → Int64 → St → (Int64 → St → Option (Int64 × St)) → Option (Int64 × St)
  | 0, _, _, _, _ => none
  | n + 1, v5, v7, τ, kx31 =>
  (if (lg_cmp v7 (0 : Int64)) = 0 then kx31 v5 τ else ck (decide (¬ v7 = 0)) (nam (v5 - v5 / v7 * v7) fun x2 => L_X11_told_6 c0 c2 c4 n v7 x2 τ kx31))
def F_X11_told (a0 : Int64) (a1 : Int64) (a2 : Int32) (σ : St) : Option (Int64 × St) :=
  L_X11_told_6 a0 a1 a2 FU a1 a0 σ (fun (y5 : Int64) (σ4 : St) => (if a2 = 0 then ck (decide (¬ y5 = 0)) (some (a0 / y5, σ4)) else ck (decide (¬ y5 = 0)) (some (a1 / y5, σ4))))
set_option maxRecDepth 20000 in
set_option maxHeartbeats 4000000 in
theorem l_X11_told_6 {G : Gx} {p : Program} {l : Launch} {e : Env} {s : State} {m : MethodId} {args : Array Value} {below : List Frame} {meth : Method} {c : Code} (C : Cx G p s m args meth c (some .long) 11 RX11 cX11_told) (c0 : Int64) (c2 : Int64) (c4 : Int32) {σ' : St} {r : Int64} (kx31 : Int64 → St → Option (Int64 × St)) (hkx31 : ∀ (w5 : Int64) (τ : St), kx31 w5 τ = some (r, σ') → Rt G p l e (lvl 0) s m args below meth c 0 0 (MQ below (va_Ql (fun a b => a = r ∧ b = σ') (Wd G) (AG G)) args s 0 0 (AG G)) 11 31 [(0, vL c0), (2, vL c2), (4, vI c4), (5, vL w5)] [] τ) : ∀ (n : Nat) (v5 : Int64) (v7 : Int64) (τ : St), L_X11_told_6 c0 c2 c4 n v5 v7 τ kx31 = some (r, σ') → Rt G p l e (lvl 0) s m args below meth c 0 0 (MQ below (va_Ql (fun a b => a = r ∧ b = σ') (Wd G) (AG G)) args s 0 0 (AG G)) 11 6 [(0, vL c0), (2, vL c2), (4, vI c4), (5, vL v5), (7, vL v7)] [] τ := by
  intro n
  induction n with
  | zero => intro v5 v7 τ hF; cases hF
  | succ n ih =>
    intro v5 v7 τ hF
    unfold L_X11_told_6 at hF
    refine r_lload C 4 dX11_told_6 rfl ?_
    refine r_lconst (v := (0 : Int64)) C dX11_told_8 rfl ?_
    refine r_lcmp C dX11_told_9 ?_
    refine r_if_eq C 31 dX11_told_10 (by decide)  (fun h3 => ?_) (fun h3 => ?_)
    · have hF := if_t h3 hF
      refine r_drop (ls2 := [(0, vL c0), (2, vL c2), (4, vI c4), (5, vL v5)]) [0, 1, 2, 3] rfl ?_
      exact hkx31 _ _ hF
    · have hF := if_f h3 hF
      refine r_lload C 3 dX11_told_13 rfl ?_
      refine r_lload C 4 dX11_told_15 rfl ?_
      obtain ⟨h1, hF⟩ := ck_e hF
      refine r_lrem C dX11_told_17 (nzl h1) ?_
      obtain ⟨x2, ex2, hF⟩ := nam_e hF
      refine r_topL ex2 ?_
      refine r_lstore (ls2 := [(9, vL x2), (0, vL c0), (2, vL c2), (4, vI c4), (5, vL v5), (7, vL v7)]) C dX11_told_18 (by decide) rfl ?_
      refine r_lload C 5 dX11_told_20 rfl ?_
      refine r_lstore (ls2 := [(5, vL v7), (9, vL x2), (0, vL c0), (2, vL c2), (4, vI c4), (7, vL v7)]) C dX11_told_22 (by decide) rfl ?_
      refine r_lload C 1 dX11_told_24 rfl ?_
      refine r_lstore (ls2 := [(7, vL x2), (5, vL v7), (9, vL x2), (0, vL c0), (2, vL c2), (4, vI c4)]) C dX11_told_26 (by decide) rfl ?_
      refine r_goto C 6 dX11_told_28 (by decide) ?_
      refine r_drop (ls2 := [(0, vL c0), (2, vL c2), (4, vI c4), (5, vL v7), (7, vL x2)]) [3, 4, 5, 1, 0] rfl ?_
      exact ih _ _ _ hF
set_option maxRecDepth 20000 in
set_option maxHeartbeats 4000000 in
theorem s_X11_told (G : Gx) (l : Launch) {a0 : Int64} {a1 : Int64} {a2 : Int32} {σ σ' : St} {r : Int64} (hF : F_X11_told a0 a1 a2 σ = some (r, σ')) : Sp G l yX11_told cX11_told 11 (some .long) (lvl 0) [vL a0, vL a1, vI a2] σ (va_Ql (fun a b => a = r ∧ b = σ') (Wd G) (AG G)) := by
  refine Sp_of (own := RX11) (by decide) rfl (Nat.le_of_ble_eq_true rfl) ?_
  intro p e s m args below meth c C
  show Rt G p l e (lvl 0) s m args below meth c 0 0 (MQ below (va_Ql (fun a b => a = r ∧ b = σ') (Wd G) (AG G)) args s 0 0 (AG G)) 11 0 [(0, vL a0), (2, vL a1), (4, vI a2)] [] σ
  unfold F_X11_told at hF
  refine r_lload_n C 1 2 dX11_told_0 rfl rfl ?_
  refine r_lstore (ls2 := [(5, vL a1), (0, vL a0), (2, vL a1), (4, vI a2)]) C dX11_told_1 (by decide) rfl ?_
  refine r_lload_n C 1 0 dX11_told_3 rfl rfl ?_
  refine r_lstore (ls2 := [(7, vL a0), (5, vL a1), (0, vL a0), (2, vL a1), (4, vI a2)]) C dX11_told_4 (by decide) rfl ?_
  refine r_drop (ls2 := [(0, vL a0), (2, vL a1), (4, vI a2), (5, vL a1), (7, vL a0)]) [2, 3, 4, 1, 0] rfl ?_
  refine l_X11_told_6 C a0 a1 a2 _ ?_ _ _ _ _ hF
  · intro y5 σ4 hF
    refine r_iload C 2 dX11_told_31 rfl ?_
    refine r_if_ne C 43 dX11_told_33 (by decide)  (fun h8 => ?_) (fun h8 => ?_)
    · have hF := if_f h8 hF
      refine r_lload_n C 1 2 dX11_told_43 rfl rfl ?_
      refine r_lload C 3 dX11_told_44 rfl ?_
      obtain ⟨h6, hF⟩ := ck_e hF
      refine r_ldiv C dX11_told_46 (nzl h6) ?_
      exact r_lreturn C dX11_told_47 (rt_e hF)
    · have hF := if_t h8 hF
      refine r_lload_n C 0 0 dX11_told_36 rfl rfl ?_
      refine r_lload C 3 dX11_told_37 rfl ?_
      obtain ⟨h7, hF⟩ := ck_e hF
      refine r_ldiv C dX11_told_39 (nzl h7) ?_
      refine r_goto C 47 dX11_told_40 (by decide) ?_
      exact r_lreturn C dX11_told_47 (rt_e hF)
def L_X11_odds_58 (c1 : Int32) (c2 : Int32) (c3 : Int32) (c4 : Int32) : Nat → Int32 → St → (St → Option (Int64 × St)) → Option (Int64 × St)
  | 0, _, _, _ => none
  | n + 1, v5, τ, kx94 =>
  (if (96 : Int32) ≤ v5 then kx94  τ else nam (fun (y14 : Int64) (σ16 : St) => ck (inb v5 96) (nam (uL σ16 (49, 0, 0) (v5.toNatClampNeg) y14) fun σ18 => nam (v5 + (1 : Int32)) fun x19 => L_X11_odds_58 c1 c2 c3 c4 n x19 σ18 kx94)) fun k15 => (if v5 = c1 then (if c1 = c2 then k15 (0 : Int64) τ else k15 (1 : Int64) τ) else k15 (0 : Int64) τ))
def L_X11_odds_112 (c2 : Int32) (c3 : Int32) (c4 : Int32) : Nat → Int64 → Int64 → Int32 → St → (Int64 → Int64 → St → Option (Int64 × St)) → Option (Int64 × St)
  | 0, _, _, _, _, _ => none
  | n + 1, v5, v7, v9, τ, kx146 =>
  (if c3 ≤ v9 then kx146 v5 v7 τ else bd (F_X11_spreads c2 τ) fun r28 σ27 => nam (v7 * (4 : Int64)) fun x30 => nam (v9 + (1 : Int32)) fun x31 => L_X11_odds_112 c2 c3 c4 n (((4 : Int64) * v5) + r28) x30 x31 σ27 kx146)
def F_X11_odds (a1 : Int32) (a2 : Int32) (a3 : Int32) (a4 : Int32) (σ : St) : Option (Int64 × St) :=
  bd (F_X11_isCell a1 σ) fun r2 σ1 => (if r2 = 0 then some ((-1 : Int64), σ1) else bd (F_X11_isCell a2 σ1) fun r5 σ4 => (if r5 = 0 then some ((-1 : Int64), σ4) else bd (F_X11_in (a3.toInt64) (0 : Int64) (10 : Int64) σ4) fun r8 σ7 => (if r8 = 0 then some ((-1 : Int64), σ7) else bd (F_X11_in (a4.toInt64) (0 : Int64) (1 : Int64) σ7) fun r11 σ10 => (if r11 = 0 then some ((-1 : Int64), σ10) else ck (inb a1 576) ((if (σ10.1 (41, 0, 0) (a1.toNatClampNeg)) = (5 : Int32) then some ((-2 : Int64), σ10) else L_X11_odds_58 a1 a2 a3 a4 FU (0 : Int32) σ10 (fun  (σ23 : St) => nam (fun (y24 : Int64) (σ26 : St) => L_X11_odds_112 a2 a3 a4 FU y24 (1 : Int64) (0 : Int32) σ26 (fun (y34 : Int64) (y35 : Int64) (σ33 : St) => bd (F_X11_told y34 y35 a4 σ33) fun r37 σ36 => some (r37, σ36))) fun k25 => (if a1 = a2 then k25 (1 : Int64) σ23 else k25 (0 : Int64) σ23))))))))
set_option maxRecDepth 20000 in
set_option maxHeartbeats 4000000 in
theorem l_X11_odds_58 {G : Gx} {p : Program} {l : Launch} {e : Env} {s : State} {m : MethodId} {args : Array Value} {below : List Frame} {meth : Method} {c : Code} (C : Cx G p s m args meth c (some .long) 10 RX11 cX11_odds) (c1 : Int32) (c2 : Int32) (c3 : Int32) (c4 : Int32) {σ' : St} {r : Int64} (kx94 : St → Option (Int64 × St)) (hkx94 : ∀  (τ : St), kx94  τ = some (r, σ') → Rt G p l e (lvl 3) s m args below meth c 0 0 (MQ below (va_Ql (fun a b => a = r ∧ b = σ') (Wd G) (AG G)) args s 0 0 (AG G)) 10 94 [(0, vR (40, 0, 0)), (1, vI c1), (2, vI c2), (3, vI c3), (4, vI c4)] [] τ) : ∀ (n : Nat) (v5 : Int32) (τ : St), L_X11_odds_58 c1 c2 c3 c4 n v5 τ kx94 = some (r, σ') → Rt G p l e (lvl 3) s m args below meth c 0 0 (MQ below (va_Ql (fun a b => a = r ∧ b = σ') (Wd G) (AG G)) args s 0 0 (AG G)) 10 58 [(0, vR (40, 0, 0)), (1, vI c1), (2, vI c2), (3, vI c3), (4, vI c4), (5, vI v5)] [] τ := by
  intro n
  induction n with
  | zero => intro v5 τ hF; cases hF
  | succ n ih =>
    intro v5 τ hF
    unfold L_X11_odds_58 at hF
    refine r_iload C 5 dX11_odds_58 rfl ?_
    refine r_bipush (v := (96 : Int32)) C dX11_odds_60 rfl ?_
    refine r_icmp_ge C 94 dX11_odds_62 (by decide)  (fun h22 => ?_) (fun h22 => ?_)
    · have hF := if_t h22 hF
      refine r_drop (ls2 := [(0, vR (40, 0, 0)), (1, vI c1), (2, vI c2), (3, vI c3), (4, vI c4)]) [0, 1, 2, 3, 4] rfl ?_
      exact hkx94 _ hF
    · have hF := if_f h22 hF
      refine r_aload_n C 0 0 dX11_odds_65 rfl rfl ?_
      refine r_getR (kf := 21) (d2 := (49, 0, 0)) C dX11_odds_66 rfl rfl f_X11 (by decide) t_5_79 rfl rfl ?_
      refine r_iload C 5 dX11_odds_69 rfl ?_
      refine r_iload C 5 dX11_odds_71 rfl ?_
      refine r_iload_n C 1 1 dX11_odds_73 rfl rfl ?_
      obtain ⟨k15, ek15, hF⟩ := nam_e hF
      have hk15 : ∀ (y14 : Int64) (σ16 : St), k15 y14 σ16 = some (r, σ') → Rt G p l e (lvl 3) s m args below meth c 0 0 (MQ below (va_Ql (fun a b => a = r ∧ b = σ') (Wd G) (AG G)) args s 0 0 (AG G)) 10 87 [(0, vR (40, 0, 0)), (1, vI c1), (2, vI c2), (3, vI c3), (4, vI c4), (5, vI v5)] [vL y14, vI v5, vR (49, 0, 0)] σ16 := by
        intro y14 σ16 hF
        subst ek15
        obtain ⟨h17, hF⟩ := ck_e hF
        obtain ⟨σ18, eσ18, hF⟩ := nam_e hF
        refine r_lastore C (v5.toNatClampNeg) dX11_odds_87 rfl h17 rfl eσ18 ?_
        obtain ⟨x19, ex19, hF⟩ := nam_e hF
        refine r_iinc (v := x19) (ls2 := [(5, vI x19), (0, vR (40, 0, 0)), (1, vI c1), (2, vI c2), (3, vI c3), (4, vI c4)]) C 5 dX11_odds_88 rfl ex19.symm (by decide) rfl ?_
        refine r_goto C 58 dX11_odds_91 (by decide) ?_
        refine r_drop (ls2 := [(0, vR (40, 0, 0)), (1, vI c1), (2, vI c2), (3, vI c3), (4, vI c4), (5, vI x19)]) [1, 2, 3, 4, 5, 0] rfl ?_
        exact ih _ _ hF
      refine r_icmp_ne C 86 dX11_odds_74 (by decide)  (fun h21 => ?_) (fun h21 => ?_)
      · have hF := if_f h21 hF
        refine r_lconst (v := (0 : Int64)) C dX11_odds_86 rfl ?_
        exact hk15 _ _ hF
      · have hF := if_t h21 hF
        refine r_iload_n C 1 1 dX11_odds_77 rfl rfl ?_
        refine r_iload_n C 2 2 dX11_odds_78 rfl rfl ?_
        refine r_icmp_eq C 86 dX11_odds_79 (by decide)  (fun h20 => ?_) (fun h20 => ?_)
        · have hF := if_t h20 hF
          refine r_lconst (v := (0 : Int64)) C dX11_odds_86 rfl ?_
          exact hk15 _ _ hF
        · have hF := if_f h20 hF
          refine r_lconst (v := (1 : Int64)) C dX11_odds_82 rfl ?_
          refine r_goto C 87 dX11_odds_83 (by decide) ?_
          exact hk15 _ _ hF
set_option maxRecDepth 20000 in
set_option maxHeartbeats 4000000 in
theorem l_X11_odds_112 {G : Gx} {p : Program} {l : Launch} {e : Env} {s : State} {m : MethodId} {args : Array Value} {below : List Frame} {meth : Method} {c : Code} (C : Cx G p s m args meth c (some .long) 10 RX11 cX11_odds) (c2 : Int32) (c3 : Int32) (c4 : Int32) {σ' : St} {r : Int64} (kx146 : Int64 → Int64 → St → Option (Int64 × St)) (hkx146 : ∀ (w5 : Int64) (w7 : Int64) (τ : St), kx146 w5 w7 τ = some (r, σ') → Rt G p l e (lvl 3) s m args below meth c 0 0 (MQ below (va_Ql (fun a b => a = r ∧ b = σ') (Wd G) (AG G)) args s 0 0 (AG G)) 10 146 [(4, vI c4), (5, vL w5), (7, vL w7)] [] τ) : ∀ (n : Nat) (v5 : Int64) (v7 : Int64) (v9 : Int32) (τ : St), L_X11_odds_112 c2 c3 c4 n v5 v7 v9 τ kx146 = some (r, σ') → Rt G p l e (lvl 3) s m args below meth c 0 0 (MQ below (va_Ql (fun a b => a = r ∧ b = σ') (Wd G) (AG G)) args s 0 0 (AG G)) 10 112 [(0, vR (40, 0, 0)), (2, vI c2), (3, vI c3), (4, vI c4), (5, vL v5), (7, vL v7), (9, vI v9)] [] τ := by
  intro n
  induction n with
  | zero => intro v5 v7 v9 τ hF; cases hF
  | succ n ih =>
    intro v5 v7 v9 τ hF
    unfold L_X11_odds_112 at hF
    refine r_iload C 6 dX11_odds_112 rfl ?_
    refine r_iload_n C 2 3 dX11_odds_114 rfl rfl ?_
    refine r_icmp_ge C 146 dX11_odds_115 (by decide)  (fun h32 => ?_) (fun h32 => ?_)
    · have hF := if_t h32 hF
      refine r_drop (ls2 := [(4, vI c4), (5, vL v5), (7, vL v7)]) [3, 4, 5] rfl ?_
      exact hkx146 _ _ _ hF
    · have hF := if_f h32 hF
      refine r_ldc2_w (v := (4 : Int64)) C dX11_odds_118 t_6_196 ?_
      refine r_lload C 4 dX11_odds_121 rfl ?_
      refine r_lmul C dX11_odds_123 ?_
      refine r_aload_n C 0 0 dX11_odds_124 rfl rfl ?_
      refine r_iload_n C 1 2 dX11_odds_125 rfl rfl ?_
      obtain ⟨r28, σ27, e29, hF⟩ := bd_e hF
      refine r_callV_l (as := [vI c2]) (st := [vL ((4 : Int64) * v5)]) C dX11_odds_126 (s_X11_spreads G l e29) rfl rfl rfl t_6_197 t_6_199 t_s_56 t_1_14 t_6_200 m_X11_spreads ⟨Nat.le_of_ble_eq_true rfl, Nat.le_of_ble_eq_true rfl⟩ ⟨rfl, rfl⟩ ⟨Nat.zero_le _, Nat.zero_le _⟩ rfl (Nat.le_of_ble_eq_true rfl) ?_
      refine r_ladd C dX11_odds_129 ?_
      refine r_lstore (ls2 := [(5, vL (((4 : Int64) * v5) + r28)), (0, vR (40, 0, 0)), (2, vI c2), (3, vI c3), (4, vI c4), (7, vL v7), (9, vI v9)]) C dX11_odds_130 (by decide) rfl ?_
      refine r_lload C 5 dX11_odds_132 rfl ?_
      refine r_ldc2_w (v := (4 : Int64)) C dX11_odds_134 t_6_196 ?_
      refine r_lmul C dX11_odds_137 ?_
      obtain ⟨x30, ex30, hF⟩ := nam_e hF
      refine r_topL ex30 ?_
      refine r_lstore (ls2 := [(7, vL x30), (5, vL (((4 : Int64) * v5) + r28)), (0, vR (40, 0, 0)), (2, vI c2), (3, vI c3), (4, vI c4), (9, vI v9)]) C dX11_odds_138 (by decide) rfl ?_
      obtain ⟨x31, ex31, hF⟩ := nam_e hF
      refine r_iinc (v := x31) (ls2 := [(9, vI x31), (7, vL x30), (5, vL (((4 : Int64) * v5) + r28)), (0, vR (40, 0, 0)), (2, vI c2), (3, vI c3), (4, vI c4)]) C 6 dX11_odds_140 rfl ex31.symm (by decide) rfl ?_
      refine r_goto C 112 dX11_odds_143 (by decide) ?_
      refine r_drop (ls2 := [(0, vR (40, 0, 0)), (2, vI c2), (3, vI c3), (4, vI c4), (5, vL (((4 : Int64) * v5) + r28)), (7, vL x30), (9, vI x31)]) [3, 4, 5, 6, 2, 1, 0] rfl ?_
      exact ih _ _ _ _ hF
set_option maxRecDepth 20000 in
set_option maxHeartbeats 4000000 in
theorem s_X11_odds (G : Gx) (l : Launch) {a1 : Int32} {a2 : Int32} {a3 : Int32} {a4 : Int32} {σ σ' : St} {r : Int64} (hF : F_X11_odds a1 a2 a3 a4 σ = some (r, σ')) : Sp G l yX11_odds cX11_odds 10 (some .long) (lvl 3) [vR (40, 0, 0), vI a1, vI a2, vI a3, vI a4] σ (va_Ql (fun a b => a = r ∧ b = σ') (Wd G) (AG G)) := by
  refine Sp_of (own := RX11) (by decide) rfl (Nat.le_of_ble_eq_true rfl) ?_
  intro p e s m args below meth c C
  show Rt G p l e (lvl 3) s m args below meth c 0 0 (MQ below (va_Ql (fun a b => a = r ∧ b = σ') (Wd G) (AG G)) args s 0 0 (AG G)) 10 0 [(0, vR (40, 0, 0)), (1, vI a1), (2, vI a2), (3, vI a3), (4, vI a4)] [] σ
  unfold F_X11_odds at hF
  refine r_iload_n C 1 1 dX11_odds_0 rfl rfl ?_
  obtain ⟨r2, σ1, e3, hF⟩ := bd_e hF
  refine r_callS_i (as := [vI a1]) (st := []) C dX11_odds_1 (s_X11_isCell G l e3) t_5_225 t_5_226 t_1_14 t_5_227 m_X11_isCell ⟨Nat.le_of_ble_eq_true rfl, Nat.le_of_ble_eq_true rfl⟩ ⟨rfl, rfl⟩ ⟨Nat.zero_le _, Nat.zero_le _⟩ rfl (Nat.le_of_ble_eq_true rfl) ?_
  refine r_if_eq C 37 dX11_odds_4 (by decide)  (fun h44 => ?_) (fun h44 => ?_)
  · have hF := if_t h44 hF
    refine r_ldc2_w (v := (-1 : Int64)) C dX11_odds_37 t_6_150 ?_
    exact r_lreturn C dX11_odds_40 (rt_e hF)
  · have hF := if_f h44 hF
    refine r_iload_n C 2 2 dX11_odds_7 rfl rfl ?_
    obtain ⟨r5, σ4, e6, hF⟩ := bd_e hF
    refine r_callS_i (as := [vI a2]) (st := []) C dX11_odds_8 (s_X11_isCell G l e6) t_5_225 t_5_226 t_1_14 t_5_227 m_X11_isCell ⟨Nat.le_of_ble_eq_true rfl, Nat.le_of_ble_eq_true rfl⟩ ⟨rfl, rfl⟩ ⟨Nat.zero_le _, Nat.zero_le _⟩ rfl (Nat.le_of_ble_eq_true rfl) ?_
    refine r_if_eq C 37 dX11_odds_11 (by decide)  (fun h43 => ?_) (fun h43 => ?_)
    · have hF := if_t h43 hF
      refine r_ldc2_w (v := (-1 : Int64)) C dX11_odds_37 t_6_150 ?_
      exact r_lreturn C dX11_odds_40 (rt_e hF)
    · have hF := if_f h43 hF
      refine r_iload_n C 3 3 dX11_odds_14 rfl rfl ?_
      refine r_i2l C dX11_odds_15 ?_
      refine r_lconst (v := (0 : Int64)) C dX11_odds_16 rfl ?_
      refine r_ldc2_w (v := (10 : Int64)) C dX11_odds_17 t_6_195 ?_
      obtain ⟨r8, σ7, e9, hF⟩ := bd_e hF
      refine r_callS_i (as := [vL (a3.toInt64), vL (0 : Int64), vL (10 : Int64)]) (st := []) C dX11_odds_20 (s_X11_in G l e9) t_5_155 t_5_156 t_1_14 t_5_157 m_X11_in ⟨Nat.le_of_ble_eq_true rfl, Nat.le_of_ble_eq_true rfl⟩ ⟨rfl, rfl⟩ ⟨Nat.zero_le _, Nat.zero_le _⟩ rfl (Nat.le_of_ble_eq_true rfl) ?_
      refine r_if_eq C 37 dX11_odds_23 (by decide)  (fun h42 => ?_) (fun h42 => ?_)
      · have hF := if_t h42 hF
        refine r_ldc2_w (v := (-1 : Int64)) C dX11_odds_37 t_6_150 ?_
        exact r_lreturn C dX11_odds_40 (rt_e hF)
      · have hF := if_f h42 hF
        refine r_iload C 4 dX11_odds_26 rfl ?_
        refine r_i2l C dX11_odds_28 ?_
        refine r_lconst (v := (0 : Int64)) C dX11_odds_29 rfl ?_
        refine r_lconst (v := (1 : Int64)) C dX11_odds_30 rfl ?_
        obtain ⟨r11, σ10, e12, hF⟩ := bd_e hF
        refine r_callS_i (as := [vL (a4.toInt64), vL (0 : Int64), vL (1 : Int64)]) (st := []) C dX11_odds_31 (s_X11_in G l e12) t_5_155 t_5_156 t_1_14 t_5_157 m_X11_in ⟨Nat.le_of_ble_eq_true rfl, Nat.le_of_ble_eq_true rfl⟩ ⟨rfl, rfl⟩ ⟨Nat.zero_le _, Nat.zero_le _⟩ rfl (Nat.le_of_ble_eq_true rfl) ?_
        refine r_if_ne C 41 dX11_odds_34 (by decide)  (fun h41 => ?_) (fun h41 => ?_)
        · have hF := if_f h41 hF
          refine r_aload_n C 0 0 dX11_odds_41 rfl rfl ?_
          refine r_getR (kf := 0) (d2 := (41, 0, 0)) C dX11_odds_42 rfl rfl f_X11 (by decide) t_5_58 rfl rfl ?_
          refine r_iload_n C 1 1 dX11_odds_45 rfl rfl ?_
          obtain ⟨h13, hF⟩ := ck_e hF
          refine r_iaload C (a1.toNatClampNeg) dX11_odds_46 rfl h13 rfl ?_
          refine r_iconst (v := (5 : Int32)) C dX11_odds_47 rfl ?_
          refine r_icmp_ne C 55 dX11_odds_48 (by decide)  (fun h40 => ?_) (fun h40 => ?_)
          · have hF := if_f h40 hF
            refine r_iconst (v := (0 : Int32)) C dX11_odds_55 rfl ?_
            refine r_istore (ls2 := [(5, vI (0 : Int32)), (0, vR (40, 0, 0)), (1, vI a1), (2, vI a2), (3, vI a3), (4, vI a4)]) C dX11_odds_56 (by decide) rfl ?_
            refine r_drop (ls2 := [(0, vR (40, 0, 0)), (1, vI a1), (2, vI a2), (3, vI a3), (4, vI a4), (5, vI (0 : Int32))]) [1, 2, 3, 4, 5, 0] rfl ?_
            refine l_X11_odds_58 C a1 a2 a3 a4 _ ?_ _ _ _ hF
            · intro  σ23 hF
              refine r_iload_n C 1 1 dX11_odds_94 rfl rfl ?_
              refine r_iload_n C 2 2 dX11_odds_95 rfl rfl ?_
              obtain ⟨k25, ek25, hF⟩ := nam_e hF
              have hk25 : ∀ (y24 : Int64) (σ26 : St), k25 y24 σ26 = some (r, σ') → Rt G p l e (lvl 3) s m args below meth c 0 0 (MQ below (va_Ql (fun a b => a = r ∧ b = σ') (Wd G) (AG G)) args s 0 0 (AG G)) 10 104 [(0, vR (40, 0, 0)), (2, vI a2), (3, vI a3), (4, vI a4)] [vL y24] σ26 := by
                intro y24 σ26 hF
                subst ek25
                refine r_lstore (ls2 := [(5, vL y24), (0, vR (40, 0, 0)), (2, vI a2), (3, vI a3), (4, vI a4)]) C dX11_odds_104 (by decide) rfl ?_
                refine r_lconst (v := (1 : Int64)) C dX11_odds_106 rfl ?_
                refine r_lstore (ls2 := [(7, vL (1 : Int64)), (5, vL y24), (0, vR (40, 0, 0)), (2, vI a2), (3, vI a3), (4, vI a4)]) C dX11_odds_107 (by decide) rfl ?_
                refine r_iconst (v := (0 : Int32)) C dX11_odds_109 rfl ?_
                refine r_istore (ls2 := [(9, vI (0 : Int32)), (7, vL (1 : Int64)), (5, vL y24), (0, vR (40, 0, 0)), (2, vI a2), (3, vI a3), (4, vI a4)]) C dX11_odds_110 (by decide) rfl ?_
                refine r_drop (ls2 := [(0, vR (40, 0, 0)), (2, vI a2), (3, vI a3), (4, vI a4), (5, vL y24), (7, vL (1 : Int64)), (9, vI (0 : Int32))]) [3, 4, 5, 6, 2, 1, 0] rfl ?_
                refine l_X11_odds_112 C a2 a3 a4 _ ?_ _ _ _ _ _ hF
                · intro y34 y35 σ33 hF
                  refine r_lload C 1 dX11_odds_146 rfl ?_
                  refine r_lload C 2 dX11_odds_148 rfl ?_
                  refine r_iload C 0 dX11_odds_150 rfl ?_
                  obtain ⟨r37, σ36, e38, hF⟩ := bd_e hF
                  refine r_callS_l (as := [vL y34, vL y35, vI a4]) (st := []) C dX11_odds_152 (s_X11_told G l e38) t_6_201 t_6_202 t_1_14 t_6_203 m_X11_told ⟨Nat.le_of_ble_eq_true rfl, Nat.le_of_ble_eq_true rfl⟩ ⟨rfl, rfl⟩ ⟨Nat.zero_le _, Nat.zero_le _⟩ rfl (Nat.le_of_ble_eq_true rfl) ?_
                  exact r_lreturn C dX11_odds_155 (rt_e hF)
              refine r_icmp_ne C 103 dX11_odds_96 (by decide)  (fun h39 => ?_) (fun h39 => ?_)
              · have hF := if_f h39 hF
                refine r_lconst (v := (0 : Int64)) C dX11_odds_103 rfl ?_
                refine r_drop (ls2 := [(0, vR (40, 0, 0)), (2, vI a2), (3, vI a3), (4, vI a4)]) [0, 2, 3, 4] rfl ?_
                exact hk25 _ _ hF
              · have hF := if_t h39 hF
                refine r_lconst (v := (1 : Int64)) C dX11_odds_99 rfl ?_
                refine r_goto C 104 dX11_odds_100 (by decide) ?_
                refine r_drop (ls2 := [(0, vR (40, 0, 0)), (2, vI a2), (3, vI a3), (4, vI a4)]) [0, 2, 3, 4] rfl ?_
                exact hk25 _ _ hF
          · have hF := if_t h40 hF
            refine r_ldc2_w (v := (-2 : Int64)) C dX11_odds_51 t_6_151 ?_
            exact r_lreturn C dX11_odds_54 (rt_e hF)
        · have hF := if_t h41 hF
          refine r_ldc2_w (v := (-1 : Int64)) C dX11_odds_37 t_6_150 ?_
          exact r_lreturn C dX11_odds_40 (rt_e hF)
def L_X11_cools_35 (c2 : Int32) (c3 : Int32) : Nat → Int32 → Int32 → Int32 → St → (Int32 → Int32 → St → Option (Int32 × St)) → Option (Int32 × St)
  | 0, _, _, _, _, _ => none
  | n + 1, v4, v5, v6, τ, kx114 =>
  (if v4 ≤ c2 then kx114 v5 v6 τ else ck (inb (1 : Int32) 9) (nam (fun (y11 : Int32) (σ13 : St) => bd (F_X11_flag y11 σ13) fun r15 σ14 => nam (v6 + r15) fun x17 => nam (fun (y18 : Int32) (σ20 : St) => nam (v4 - y18) fun x21 => nam (fun (y22 : Int32) (σ24 : St) => nam (v5 + (1 : Int32)) fun x25 => L_X11_cools_35 c2 c3 n y22 x25 x17 σ24 kx114) fun k23 => (if 0 ≤ x21 then k23 x21 σ20 else k23 (0 : Int32) σ20)) fun k19 => (if y11 = 0 then ck (inb (6 : Int32) 9) (ck (decide (¬ (σ14.1 (43, 0, 0) 6) = 0)) (k19 ((1 : Int32) + (v4 / (σ14.1 (43, 0, 0) 6))) σ14)) else k19 (1 : Int32) σ14)) fun k12 => (if v4 < (τ.1 (43, 0, 0) 1) then k12 (0 : Int32) τ else k12 (1 : Int32) τ)))
def F_X11_cools (a1 : Int32) (a2 : Int32) (a3 : Int32) (σ : St) : Option (Int32 × St) :=
  bd (F_X11_isHeat a1 σ) fun r2 σ1 => (if r2 = 0 then some ((-1 : Int32), σ1) else bd (F_X11_isHeat a2 σ1) fun r5 σ4 => (if r5 = 0 then some ((-1 : Int32), σ4) else bd (F_X11_in (a3.toInt64) (0 : Int64) (1 : Int64) σ4) fun r8 σ7 => (if r8 = 0 then some ((-1 : Int32), σ7) else L_X11_cools_35 a2 a3 FU a1 (0 : Int32) (0 : Int32) σ7 (fun (y33 : Int32) (y34 : Int32) (σ32 : St) => (if a3 = 0 then some (y33, σ32) else some (y34, σ32))))))
set_option maxRecDepth 20000 in
set_option maxHeartbeats 4000000 in
theorem l_X11_cools_35 {G : Gx} {p : Program} {l : Launch} {e : Env} {s : State} {m : MethodId} {args : Array Value} {below : List Frame} {meth : Method} {c : Code} (C : Cx G p s m args meth c (some .int) 8 RX11 cX11_cools) (c2 : Int32) (c3 : Int32) {σ' : St} {r : Int32} (kx114 : Int32 → Int32 → St → Option (Int32 × St)) (hkx114 : ∀ (w5 : Int32) (w6 : Int32) (τ : St), kx114 w5 w6 τ = some (r, σ') → Rt G p l e (lvl 2) s m args below meth c 0 0 (MQ below (va_Qi (fun a b => a = r ∧ b = σ') (Wd G) (AG G)) args s 0 0 (AG G)) 8 114 [(3, vI c3), (5, vI w5), (6, vI w6)] [] τ) : ∀ (n : Nat) (v4 : Int32) (v5 : Int32) (v6 : Int32) (τ : St), L_X11_cools_35 c2 c3 n v4 v5 v6 τ kx114 = some (r, σ') → Rt G p l e (lvl 2) s m args below meth c 0 0 (MQ below (va_Qi (fun a b => a = r ∧ b = σ') (Wd G) (AG G)) args s 0 0 (AG G)) 8 35 [(0, vR (40, 0, 0)), (2, vI c2), (3, vI c3), (4, vI v4), (5, vI v5), (6, vI v6)] [] τ := by
  intro n
  induction n with
  | zero => intro v4 v5 v6 τ hF; cases hF
  | succ n ih =>
    intro v4 v5 v6 τ hF
    unfold L_X11_cools_35 at hF
    refine r_iload C 3 dX11_cools_35 rfl ?_
    refine r_iload_n C 1 2 dX11_cools_37 rfl rfl ?_
    refine r_icmp_le C 114 dX11_cools_38 (by decide)  (fun h31 => ?_) (fun h31 => ?_)
    · have hF := if_t h31 hF
      refine r_drop (ls2 := [(3, vI c3), (5, vI v5), (6, vI v6)]) [2, 4, 5] rfl ?_
      exact hkx114 _ _ _ hF
    · have hF := if_f h31 hF
      refine r_iload C 3 dX11_cools_41 rfl ?_
      refine r_aload_n C 0 0 dX11_cools_43 rfl rfl ?_
      refine r_getR (kf := 2) (d2 := (43, 0, 0)) C dX11_cools_44 rfl rfl f_X11 (by decide) t_5_60 rfl rfl ?_
      refine r_iconst (v := (1 : Int32)) C dX11_cools_47 rfl ?_
      obtain ⟨h10, hF⟩ := ck_e hF
      refine r_iaload C 1 dX11_cools_48 rfl h10 rfl ?_
      obtain ⟨k12, ek12, hF⟩ := nam_e hF
      have hk12 : ∀ (y11 : Int32) (σ13 : St), k12 y11 σ13 = some (r, σ') → Rt G p l e (lvl 2) s m args below meth c 0 0 (MQ below (va_Qi (fun a b => a = r ∧ b = σ') (Wd G) (AG G)) args s 0 0 (AG G)) 8 57 [(0, vR (40, 0, 0)), (2, vI c2), (3, vI c3), (4, vI v4), (5, vI v5), (6, vI v6)] [vI y11] σ13 := by
        intro y11 σ13 hF
        subst ek12
        refine r_istore (ls2 := [(7, vI y11), (0, vR (40, 0, 0)), (2, vI c2), (3, vI c3), (4, vI v4), (5, vI v5), (6, vI v6)]) C dX11_cools_57 (by decide) rfl ?_
        refine r_iload C 6 dX11_cools_59 rfl ?_
        refine r_iload C 0 dX11_cools_61 rfl ?_
        obtain ⟨r15, σ14, e16, hF⟩ := bd_e hF
        refine r_callS_i (as := [vI y11]) (st := [vI v6]) C dX11_cools_63 (s_X11_flag G l e16) t_5_197 t_5_198 t_1_14 t_5_199 m_X11_flag ⟨Nat.le_of_ble_eq_true rfl, Nat.le_of_ble_eq_true rfl⟩ ⟨rfl, rfl⟩ ⟨Nat.zero_le _, Nat.zero_le _⟩ rfl (Nat.le_of_ble_eq_true rfl) ?_
        refine r_iadd C dX11_cools_66 ?_
        obtain ⟨x17, ex17, hF⟩ := nam_e hF
        refine r_topI ex17 ?_
        refine r_istore (ls2 := [(6, vI x17), (7, vI y11), (0, vR (40, 0, 0)), (2, vI c2), (3, vI c3), (4, vI v4), (5, vI v5)]) C dX11_cools_67 (by decide) rfl ?_
        refine r_iload C 5 dX11_cools_69 rfl ?_
        refine r_iload C 1 dX11_cools_71 rfl ?_
        obtain ⟨k19, ek19, hF⟩ := nam_e hF
        have hk19 : ∀ (y18 : Int32) (σ20 : St), k19 y18 σ20 = some (r, σ') → Rt G p l e (lvl 2) s m args below meth c 0 0 (MQ below (va_Qi (fun a b => a = r ∧ b = σ') (Wd G) (AG G)) args s 0 0 (AG G)) 8 92 [(0, vR (40, 0, 0)), (2, vI c2), (3, vI c3), (5, vI v5), (6, vI x17)] [vI y18, vI v4] σ20 := by
          intro y18 σ20 hF
          subst ek19
          refine r_isub C dX11_cools_92 ?_
          obtain ⟨x21, ex21, hF⟩ := nam_e hF
          refine r_topI ex21 ?_
          refine r_istore (ls2 := [(4, vI x21), (0, vR (40, 0, 0)), (2, vI c2), (3, vI c3), (5, vI v5), (6, vI x17)]) C dX11_cools_93 (by decide) rfl ?_
          refine r_iload C 0 dX11_cools_95 rfl ?_
          obtain ⟨k23, ek23, hF⟩ := nam_e hF
          have hk23 : ∀ (y22 : Int32) (σ24 : St), k23 y22 σ24 = some (r, σ') → Rt G p l e (lvl 2) s m args below meth c 0 0 (MQ below (va_Qi (fun a b => a = r ∧ b = σ') (Wd G) (AG G)) args s 0 0 (AG G)) 8 106 [(0, vR (40, 0, 0)), (2, vI c2), (3, vI c3), (5, vI v5), (6, vI x17)] [vI y22] σ24 := by
            intro y22 σ24 hF
            subst ek23
            refine r_istore (ls2 := [(4, vI y22), (0, vR (40, 0, 0)), (2, vI c2), (3, vI c3), (5, vI v5), (6, vI x17)]) C dX11_cools_106 (by decide) rfl ?_
            obtain ⟨x25, ex25, hF⟩ := nam_e hF
            refine r_iinc (v := x25) (ls2 := [(5, vI x25), (4, vI y22), (0, vR (40, 0, 0)), (2, vI c2), (3, vI c3), (6, vI x17)]) C 4 dX11_cools_108 rfl ex25.symm (by decide) rfl ?_
            refine r_goto C 35 dX11_cools_111 (by decide) ?_
            refine r_drop (ls2 := [(0, vR (40, 0, 0)), (2, vI c2), (3, vI c3), (4, vI y22), (5, vI x25), (6, vI x17)]) [2, 3, 4, 1, 0, 5] rfl ?_
            exact ih _ _ _ _ hF
          refine r_if_ge C 104 dX11_cools_97 (by decide)  (fun h26 => ?_) (fun h26 => ?_)
          · have hF := if_t h26 hF
            refine r_iload C 0 dX11_cools_104 rfl ?_
            refine r_drop (ls2 := [(0, vR (40, 0, 0)), (2, vI c2), (3, vI c3), (5, vI v5), (6, vI x17)]) [1, 2, 3, 4, 5] rfl ?_
            exact hk23 _ _ hF
          · have hF := if_f h26 hF
            refine r_iconst (v := (0 : Int32)) C dX11_cools_100 rfl ?_
            refine r_goto C 106 dX11_cools_101 (by decide) ?_
            refine r_drop (ls2 := [(0, vR (40, 0, 0)), (2, vI c2), (3, vI c3), (5, vI v5), (6, vI x17)]) [1, 2, 3, 4, 5] rfl ?_
            exact hk23 _ _ hF
        refine r_if_eq C 80 dX11_cools_73 (by decide)  (fun h29 => ?_) (fun h29 => ?_)
        · have hF := if_t h29 hF
          refine r_iconst (v := (1 : Int32)) C dX11_cools_80 rfl ?_
          refine r_iload C 5 dX11_cools_81 rfl ?_
          refine r_aload_n C 2 0 dX11_cools_83 rfl rfl ?_
          refine r_getR (kf := 2) (d2 := (43, 0, 0)) C dX11_cools_84 rfl rfl f_X11 (by decide) t_5_60 rfl rfl ?_
          refine r_bipush (v := (6 : Int32)) C dX11_cools_87 rfl ?_
          obtain ⟨h27, hF⟩ := ck_e hF
          refine r_iaload C 6 dX11_cools_89 rfl h27 rfl ?_
          obtain ⟨h28, hF⟩ := ck_e hF
          refine r_idiv C dX11_cools_90 (nz h28) ?_
          refine r_iadd C dX11_cools_91 ?_
          refine r_drop (ls2 := [(0, vR (40, 0, 0)), (2, vI c2), (3, vI c3), (5, vI v5), (6, vI x17)]) [2, 3, 4, 6, 0] rfl ?_
          exact hk19 _ _ hF
        · have hF := if_f h29 hF
          refine r_iconst (v := (1 : Int32)) C dX11_cools_76 rfl ?_
          refine r_goto C 92 dX11_cools_77 (by decide) ?_
          refine r_drop (ls2 := [(0, vR (40, 0, 0)), (2, vI c2), (3, vI c3), (5, vI v5), (6, vI x17)]) [2, 3, 4, 6, 0] rfl ?_
          exact hk19 _ _ hF
      refine r_icmp_lt C 56 dX11_cools_49 (by decide)  (fun h30 => ?_) (fun h30 => ?_)
      · have hF := if_t h30 hF
        refine r_iconst (v := (0 : Int32)) C dX11_cools_56 rfl ?_
        exact hk12 _ _ hF
      · have hF := if_f h30 hF
        refine r_iconst (v := (1 : Int32)) C dX11_cools_52 rfl ?_
        refine r_goto C 57 dX11_cools_53 (by decide) ?_
        exact hk12 _ _ hF
set_option maxRecDepth 20000 in
set_option maxHeartbeats 4000000 in
theorem s_X11_cools (G : Gx) (l : Launch) {a1 : Int32} {a2 : Int32} {a3 : Int32} {σ σ' : St} {r : Int32} (hF : F_X11_cools a1 a2 a3 σ = some (r, σ')) : Sp G l yX11_cools cX11_cools 8 (some .int) (lvl 2) [vR (40, 0, 0), vI a1, vI a2, vI a3] σ (va_Qi (fun a b => a = r ∧ b = σ') (Wd G) (AG G)) := by
  refine Sp_of (own := RX11) (by decide) rfl (Nat.le_of_ble_eq_true rfl) ?_
  intro p e s m args below meth c C
  show Rt G p l e (lvl 2) s m args below meth c 0 0 (MQ below (va_Qi (fun a b => a = r ∧ b = σ') (Wd G) (AG G)) args s 0 0 (AG G)) 8 0 [(0, vR (40, 0, 0)), (1, vI a1), (2, vI a2), (3, vI a3)] [] σ
  unfold F_X11_cools at hF
  refine r_iload_n C 1 1 dX11_cools_0 rfl rfl ?_
  obtain ⟨r2, σ1, e3, hF⟩ := bd_e hF
  refine r_callS_i (as := [vI a1]) (st := []) C dX11_cools_1 (s_X11_isHeat G l e3) t_6_163 t_6_164 t_1_14 t_6_165 m_X11_isHeat ⟨Nat.le_of_ble_eq_true rfl, Nat.le_of_ble_eq_true rfl⟩ ⟨rfl, rfl⟩ ⟨Nat.zero_le _, Nat.zero_le _⟩ rfl (Nat.le_of_ble_eq_true rfl) ?_
  refine r_if_eq C 24 dX11_cools_4 (by decide)  (fun h38 => ?_) (fun h38 => ?_)
  · have hF := if_t h38 hF
    refine r_iconst (v := (-1 : Int32)) C dX11_cools_24 rfl ?_
    exact r_ireturn C dX11_cools_25 (rt_e hF)
  · have hF := if_f h38 hF
    refine r_iload_n C 2 2 dX11_cools_7 rfl rfl ?_
    obtain ⟨r5, σ4, e6, hF⟩ := bd_e hF
    refine r_callS_i (as := [vI a2]) (st := []) C dX11_cools_8 (s_X11_isHeat G l e6) t_6_163 t_6_164 t_1_14 t_6_165 m_X11_isHeat ⟨Nat.le_of_ble_eq_true rfl, Nat.le_of_ble_eq_true rfl⟩ ⟨rfl, rfl⟩ ⟨Nat.zero_le _, Nat.zero_le _⟩ rfl (Nat.le_of_ble_eq_true rfl) ?_
    refine r_if_eq C 24 dX11_cools_11 (by decide)  (fun h37 => ?_) (fun h37 => ?_)
    · have hF := if_t h37 hF
      refine r_iconst (v := (-1 : Int32)) C dX11_cools_24 rfl ?_
      exact r_ireturn C dX11_cools_25 (rt_e hF)
    · have hF := if_f h37 hF
      refine r_iload_n C 3 3 dX11_cools_14 rfl rfl ?_
      refine r_i2l C dX11_cools_15 ?_
      refine r_lconst (v := (0 : Int64)) C dX11_cools_16 rfl ?_
      refine r_lconst (v := (1 : Int64)) C dX11_cools_17 rfl ?_
      obtain ⟨r8, σ7, e9, hF⟩ := bd_e hF
      refine r_callS_i (as := [vL (a3.toInt64), vL (0 : Int64), vL (1 : Int64)]) (st := []) C dX11_cools_18 (s_X11_in G l e9) t_5_155 t_5_156 t_1_14 t_5_157 m_X11_in ⟨Nat.le_of_ble_eq_true rfl, Nat.le_of_ble_eq_true rfl⟩ ⟨rfl, rfl⟩ ⟨Nat.zero_le _, Nat.zero_le _⟩ rfl (Nat.le_of_ble_eq_true rfl) ?_
      refine r_if_ne C 26 dX11_cools_21 (by decide)  (fun h36 => ?_) (fun h36 => ?_)
      · have hF := if_f h36 hF
        refine r_iload_n C 1 1 dX11_cools_26 rfl rfl ?_
        refine r_istore (ls2 := [(4, vI a1), (0, vR (40, 0, 0)), (1, vI a1), (2, vI a2), (3, vI a3)]) C dX11_cools_27 (by decide) rfl ?_
        refine r_iconst (v := (0 : Int32)) C dX11_cools_29 rfl ?_
        refine r_istore (ls2 := [(5, vI (0 : Int32)), (4, vI a1), (0, vR (40, 0, 0)), (1, vI a1), (2, vI a2), (3, vI a3)]) C dX11_cools_30 (by decide) rfl ?_
        refine r_iconst (v := (0 : Int32)) C dX11_cools_32 rfl ?_
        refine r_istore (ls2 := [(6, vI (0 : Int32)), (5, vI (0 : Int32)), (4, vI a1), (0, vR (40, 0, 0)), (1, vI a1), (2, vI a2), (3, vI a3)]) C dX11_cools_33 (by decide) rfl ?_
        refine r_drop (ls2 := [(0, vR (40, 0, 0)), (2, vI a2), (3, vI a3), (4, vI a1), (5, vI (0 : Int32)), (6, vI (0 : Int32))]) [3, 5, 6, 2, 1, 0] rfl ?_
        refine l_X11_cools_35 C a2 a3 _ ?_ _ _ _ _ _ hF
        · intro y33 y34 σ32 hF
          refine r_iload_n C 0 3 dX11_cools_114 rfl rfl ?_
          refine r_if_ne C 123 dX11_cools_115 (by decide)  (fun h35 => ?_) (fun h35 => ?_)
          · have hF := if_f h35 hF
            refine r_iload C 2 dX11_cools_123 rfl ?_
            exact r_ireturn C dX11_cools_125 (rt_e hF)
          · have hF := if_t h35 hF
            refine r_iload C 1 dX11_cools_118 rfl ?_
            refine r_goto C 125 dX11_cools_120 (by decide) ?_
            exact r_ireturn C dX11_cools_125 (rt_e hF)
      · have hF := if_t h36 hF
        refine r_iconst (v := (-1 : Int32)) C dX11_cools_24 rfl ?_
        exact r_ireturn C dX11_cools_25 (rt_e hF)
def F_X11_saw (a1 : Int32) (a2 : Int32) (a3 : Int32) (a4 : Int32) (σ : St) : Option (Int32 × St) :=
  bd (F_X11_isSize a1 σ) fun r2 σ1 => (if r2 = 0 then some ((-1 : Int32), σ1) else bd (F_X11_isHeat a2 σ1) fun r5 σ4 => (if r5 = 0 then some ((-1 : Int32), σ4) else bd (F_X11_isLife a4 σ4) fun r8 σ7 => (if r8 = 0 then some ((-1 : Int32), σ7) else (if (σ7.1 (40, 0, 0) 23) = (12 : Int32) then some ((-3 : Int32), σ7) else ck (inb ((4 : Int32) * (σ7.1 (40, 0, 0) 23)) 48) (nam (uI σ7 (51, 0, 0) (((4 : Int32) * (σ7.1 (40, 0, 0) 23)).toNatClampNeg) a1) fun σ11 => ck (inb (((4 : Int32) * (σ11.1 (40, 0, 0) 23)) + (1 : Int32)) 48) (nam (uI σ11 (51, 0, 0) ((((4 : Int32) * (σ11.1 (40, 0, 0) 23)) + (1 : Int32)).toNatClampNeg) a2) fun σ13 => bd (F_X11_flag a3 σ13) fun r15 σ14 => ck (inb (((4 : Int32) * (σ13.1 (40, 0, 0) 23)) + (2 : Int32)) 48) (nam (uI σ14 (51, 0, 0) ((((4 : Int32) * (σ13.1 (40, 0, 0) 23)) + (2 : Int32)).toNatClampNeg) r15) fun σ18 => ck (inb (((4 : Int32) * (σ18.1 (40, 0, 0) 23)) + (3 : Int32)) 48) (nam (uI σ18 (51, 0, 0) ((((4 : Int32) * (σ18.1 (40, 0, 0) 23)) + (3 : Int32)).toNatClampNeg) a4) fun σ20 => nam (uI σ20 (40, 0, 0) 23 ((σ20.1 (40, 0, 0) 23) + (1 : Int32))) fun σ21 => some (σ21.1 (40, 0, 0) 23, σ21)))))))))
set_option maxRecDepth 20000 in
set_option maxHeartbeats 4000000 in
theorem s_X11_saw (G : Gx) (l : Launch) {a1 : Int32} {a2 : Int32} {a3 : Int32} {a4 : Int32} {σ σ' : St} {r : Int32} (hF : F_X11_saw a1 a2 a3 a4 σ = some (r, σ')) : Sp G l yX11_saw cX11_saw 5 (some .int) (lvl 2) [vR (40, 0, 0), vI a1, vI a2, vI a3, vI a4] σ (va_Qi (fun a b => a = r ∧ b = σ') (Wd G) (AG G)) := by
  refine Sp_of (own := RX11) (by decide) rfl (Nat.le_of_ble_eq_true rfl) ?_
  intro p e s m args below meth c C
  show Rt G p l e (lvl 2) s m args below meth c 0 0 (MQ below (va_Qi (fun a b => a = r ∧ b = σ') (Wd G) (AG G)) args s 0 0 (AG G)) 5 0 [(0, vR (40, 0, 0)), (1, vI a1), (2, vI a2), (3, vI a3), (4, vI a4)] [] σ
  unfold F_X11_saw at hF
  refine r_iload_n C 1 1 dX11_saw_0 rfl rfl ?_
  obtain ⟨r2, σ1, e3, hF⟩ := bd_e hF
  refine r_callS_i (as := [vI a1]) (st := []) C dX11_saw_1 (s_X11_isSize G l e3) t_6_160 t_6_161 t_1_14 t_6_162 m_X11_isSize ⟨Nat.le_of_ble_eq_true rfl, Nat.le_of_ble_eq_true rfl⟩ ⟨rfl, rfl⟩ ⟨Nat.zero_le _, Nat.zero_le _⟩ rfl (Nat.le_of_ble_eq_true rfl) ?_
  refine r_if_eq C 22 dX11_saw_4 (by decide)  (fun h25 => ?_) (fun h25 => ?_)
  · have hF := if_t h25 hF
    refine r_iconst (v := (-1 : Int32)) C dX11_saw_22 rfl ?_
    exact r_ireturn C dX11_saw_23 (rt_e hF)
  · have hF := if_f h25 hF
    refine r_iload_n C 2 2 dX11_saw_7 rfl rfl ?_
    obtain ⟨r5, σ4, e6, hF⟩ := bd_e hF
    refine r_callS_i (as := [vI a2]) (st := []) C dX11_saw_8 (s_X11_isHeat G l e6) t_6_163 t_6_164 t_1_14 t_6_165 m_X11_isHeat ⟨Nat.le_of_ble_eq_true rfl, Nat.le_of_ble_eq_true rfl⟩ ⟨rfl, rfl⟩ ⟨Nat.zero_le _, Nat.zero_le _⟩ rfl (Nat.le_of_ble_eq_true rfl) ?_
    refine r_if_eq C 22 dX11_saw_11 (by decide)  (fun h24 => ?_) (fun h24 => ?_)
    · have hF := if_t h24 hF
      refine r_iconst (v := (-1 : Int32)) C dX11_saw_22 rfl ?_
      exact r_ireturn C dX11_saw_23 (rt_e hF)
    · have hF := if_f h24 hF
      refine r_iload C 4 dX11_saw_14 rfl ?_
      obtain ⟨r8, σ7, e9, hF⟩ := bd_e hF
      refine r_callS_i (as := [vI a4]) (st := []) C dX11_saw_16 (s_X11_isLife G l e9) t_6_187 t_6_188 t_1_14 t_6_189 m_X11_isLife ⟨Nat.le_of_ble_eq_true rfl, Nat.le_of_ble_eq_true rfl⟩ ⟨rfl, rfl⟩ ⟨Nat.zero_le _, Nat.zero_le _⟩ rfl (Nat.le_of_ble_eq_true rfl) ?_
      refine r_if_ne C 24 dX11_saw_19 (by decide)  (fun h23 => ?_) (fun h23 => ?_)
      · have hF := if_f h23 hF
        refine r_aload_n C 0 0 dX11_saw_24 rfl rfl ?_
        refine r_getI (kf := 23) C dX11_saw_25 rfl rfl f_X11 (by decide) t_5_81 rfl ?_
        refine r_bipush (v := (12 : Int32)) C dX11_saw_28 rfl ?_
        refine r_icmp_ne C 36 dX11_saw_30 (by decide)  (fun h22 => ?_) (fun h22 => ?_)
        · have hF := if_f h22 hF
          refine r_aload_n C 0 0 dX11_saw_36 rfl rfl ?_
          refine r_getR (kf := 24) (d2 := (51, 0, 0)) C dX11_saw_37 rfl rfl f_X11 (by decide) t_5_82 rfl rfl ?_
          refine r_iconst (v := (4 : Int32)) C dX11_saw_40 rfl ?_
          refine r_aload_n C 0 0 dX11_saw_41 rfl rfl ?_
          refine r_getI (kf := 23) C dX11_saw_42 rfl rfl f_X11 (by decide) t_5_81 rfl ?_
          refine r_imul C dX11_saw_45 ?_
          refine r_iload_n C 1 1 dX11_saw_46 rfl rfl ?_
          obtain ⟨h10, hF⟩ := ck_e hF
          obtain ⟨σ11, eσ11, hF⟩ := nam_e hF
          refine r_iastore C (((4 : Int32) * (σ7.1 (40, 0, 0) 23)).toNatClampNeg) dX11_saw_47 rfl h10 rfl eσ11 ?_
          refine r_aload_n C 0 0 dX11_saw_48 rfl rfl ?_
          refine r_getR (kf := 24) (d2 := (51, 0, 0)) C dX11_saw_49 rfl rfl f_X11 (by decide) t_5_82 rfl rfl ?_
          refine r_iconst (v := (4 : Int32)) C dX11_saw_52 rfl ?_
          refine r_aload_n C 0 0 dX11_saw_53 rfl rfl ?_
          refine r_getI (kf := 23) C dX11_saw_54 rfl rfl f_X11 (by decide) t_5_81 rfl ?_
          refine r_imul C dX11_saw_57 ?_
          refine r_iconst (v := (1 : Int32)) C dX11_saw_58 rfl ?_
          refine r_iadd C dX11_saw_59 ?_
          refine r_iload_n C 2 2 dX11_saw_60 rfl rfl ?_
          obtain ⟨h12, hF⟩ := ck_e hF
          obtain ⟨σ13, eσ13, hF⟩ := nam_e hF
          refine r_iastore C ((((4 : Int32) * (σ11.1 (40, 0, 0) 23)) + (1 : Int32)).toNatClampNeg) dX11_saw_61 rfl h12 rfl eσ13 ?_
          refine r_aload_n C 0 0 dX11_saw_62 rfl rfl ?_
          refine r_getR (kf := 24) (d2 := (51, 0, 0)) C dX11_saw_63 rfl rfl f_X11 (by decide) t_5_82 rfl rfl ?_
          refine r_iconst (v := (4 : Int32)) C dX11_saw_66 rfl ?_
          refine r_aload_n C 0 0 dX11_saw_67 rfl rfl ?_
          refine r_getI (kf := 23) C dX11_saw_68 rfl rfl f_X11 (by decide) t_5_81 rfl ?_
          refine r_imul C dX11_saw_71 ?_
          refine r_iconst (v := (2 : Int32)) C dX11_saw_72 rfl ?_
          refine r_iadd C dX11_saw_73 ?_
          refine r_iload_n C 3 3 dX11_saw_74 rfl rfl ?_
          obtain ⟨r15, σ14, e16, hF⟩ := bd_e hF
          refine r_callS_i (as := [vI a3]) (st := [vI (((4 : Int32) * (σ13.1 (40, 0, 0) 23)) + (2 : Int32)), vR (51, 0, 0)]) C dX11_saw_75 (s_X11_flag G l e16) t_5_197 t_5_198 t_1_14 t_5_199 m_X11_flag ⟨Nat.le_of_ble_eq_true rfl, Nat.le_of_ble_eq_true rfl⟩ ⟨rfl, rfl⟩ ⟨Nat.zero_le _, Nat.zero_le _⟩ rfl (Nat.le_of_ble_eq_true rfl) ?_
          obtain ⟨h17, hF⟩ := ck_e hF
          obtain ⟨σ18, eσ18, hF⟩ := nam_e hF
          refine r_iastore C ((((4 : Int32) * (σ13.1 (40, 0, 0) 23)) + (2 : Int32)).toNatClampNeg) dX11_saw_78 rfl h17 rfl eσ18 ?_
          refine r_aload_n C 0 0 dX11_saw_79 rfl rfl ?_
          refine r_getR (kf := 24) (d2 := (51, 0, 0)) C dX11_saw_80 rfl rfl f_X11 (by decide) t_5_82 rfl rfl ?_
          refine r_iconst (v := (4 : Int32)) C dX11_saw_83 rfl ?_
          refine r_aload_n C 0 0 dX11_saw_84 rfl rfl ?_
          refine r_getI (kf := 23) C dX11_saw_85 rfl rfl f_X11 (by decide) t_5_81 rfl ?_
          refine r_imul C dX11_saw_88 ?_
          refine r_iconst (v := (3 : Int32)) C dX11_saw_89 rfl ?_
          refine r_iadd C dX11_saw_90 ?_
          refine r_iload C 4 dX11_saw_91 rfl ?_
          obtain ⟨h19, hF⟩ := ck_e hF
          obtain ⟨σ20, eσ20, hF⟩ := nam_e hF
          refine r_iastore C ((((4 : Int32) * (σ18.1 (40, 0, 0) 23)) + (3 : Int32)).toNatClampNeg) dX11_saw_93 rfl h19 rfl eσ20 ?_
          refine r_aload_n C 0 0 dX11_saw_94 rfl rfl ?_
          refine r_dup_r C dX11_saw_95 ?_
          refine r_getI (kf := 23) C dX11_saw_96 rfl rfl f_X11 (by decide) t_5_81 rfl ?_
          refine r_iconst (v := (1 : Int32)) C dX11_saw_99 rfl ?_
          refine r_iadd C dX11_saw_100 ?_
          obtain ⟨σ21, eσ21, hF⟩ := nam_e hF
          refine r_put (kf := 23) (ty0 := tyX11) C dX11_saw_101 rfl rfl f_X11 tyX11_ok nmX11 (by decide) t_5_81 rfl rfl rfl rfl eσ21 ?_
          refine r_aload_n C 0 0 dX11_saw_104 rfl rfl ?_
          refine r_getI (kf := 23) C dX11_saw_105 rfl rfl f_X11 (by decide) t_5_81 rfl ?_
          exact r_ireturn C dX11_saw_108 (rt_e hF)
        · have hF := if_t h22 hF
          refine r_bipush (v := (-3 : Int32)) C dX11_saw_33 rfl ?_
          exact r_ireturn C dX11_saw_35 (rt_e hF)
      · have hF := if_t h23 hF
        refine r_iconst (v := (-1 : Int32)) C dX11_saw_22 rfl ?_
        exact r_ireturn C dX11_saw_23 (rt_e hF)
def F_X11_forget  (σ : St) : Option (Int32 × St) :=
  nam (σ.1 (40, 0, 0) 23) fun x1 => nam (uI σ (40, 0, 0) 23 (0 : Int32)) fun σ2 => some (x1, σ2)
set_option maxRecDepth 20000 in
set_option maxHeartbeats 4000000 in
theorem s_X11_forget (G : Gx) (l : Launch)  {σ σ' : St} {r : Int32} (hF : F_X11_forget  σ = some (r, σ')) : Sp G l yX11_forget cX11_forget 2 (some .int) (lvl 0) [vR (40, 0, 0)] σ (va_Qi (fun a b => a = r ∧ b = σ') (Wd G) (AG G)) := by
  refine Sp_of (own := RX11) (by decide) rfl (Nat.le_of_ble_eq_true rfl) ?_
  intro p e s m args below meth c C
  show Rt G p l e (lvl 0) s m args below meth c 0 0 (MQ below (va_Qi (fun a b => a = r ∧ b = σ') (Wd G) (AG G)) args s 0 0 (AG G)) 2 0 [(0, vR (40, 0, 0))] [] σ
  unfold F_X11_forget at hF
  refine r_aload_n C 0 0 dX11_forget_0 rfl rfl ?_
  refine r_getI (kf := 23) C dX11_forget_1 rfl rfl f_X11 (by decide) t_5_81 rfl ?_
  obtain ⟨x1, ex1, hF⟩ := nam_e hF
  refine r_topI ex1 ?_
  refine r_istore_n (ls2 := [(1, vI x1), (0, vR (40, 0, 0))]) C dX11_forget_4 1 rfl (by decide) rfl ?_
  refine r_aload_n C 1 0 dX11_forget_5 rfl rfl ?_
  refine r_iconst (v := (0 : Int32)) C dX11_forget_6 rfl ?_
  obtain ⟨σ2, eσ2, hF⟩ := nam_e hF
  refine r_put (kf := 23) (ty0 := tyX11) C dX11_forget_7 rfl rfl f_X11 tyX11_ok nmX11 (by decide) t_5_81 rfl rfl rfl rfl eσ2 ?_
  refine r_iload_n C 0 1 dX11_forget_10 rfl rfl ?_
  exact r_ireturn C dX11_forget_11 (rt_e hF)
def F_X11_isRight (a1 : Int32) (σ : St) : Option (Int32 × St) :=
  ck (inb ((4 : Int32) * a1) 48) (ck (inb (((4 : Int32) * a1) + (1 : Int32)) 48) (ck (inb (((4 : Int32) * a1) + (2 : Int32)) 48) (nam (fun (y4 : Int32) (σ6 : St) => bd (F_X11_lifeAt (σ.1 (51, 0, 0) (((4 : Int32) * a1).toNatClampNeg)) (σ.1 (51, 0, 0) ((((4 : Int32) * a1) + (1 : Int32)).toNatClampNeg)) y4 σ6) fun r8 σ7 => ck (inb (((4 : Int32) * a1) + (3 : Int32)) 48) ((if r8 = (σ7.1 (51, 0, 0) ((((4 : Int32) * a1) + (3 : Int32)).toNatClampNeg)) then some ((1 : Int32), σ7) else some ((0 : Int32), σ7)))) fun k5 => (if (σ.1 (51, 0, 0) ((((4 : Int32) * a1) + (2 : Int32)).toNatClampNeg)) = (1 : Int32) then k5 (1 : Int32) σ else k5 (0 : Int32) σ))))
set_option maxRecDepth 20000 in
set_option maxHeartbeats 4000000 in
theorem s_X11_isRight (G : Gx) (l : Launch) {a1 : Int32} {σ σ' : St} {r : Int32} (hF : F_X11_isRight a1 σ = some (r, σ')) : Sp G l yX11_isRight cX11_isRight 2 (some .boolean) (lvl 4) [vR (40, 0, 0), vI a1] σ (va_Qi (fun a b => a = r ∧ b = σ') (Wd G) (AG G)) := by
  refine Sp_of (own := RX11) (by decide) rfl (Nat.le_of_ble_eq_true rfl) ?_
  intro p e s m args below meth c C
  show Rt G p l e (lvl 4) s m args below meth c 0 0 (MQ below (va_Qi (fun a b => a = r ∧ b = σ') (Wd G) (AG G)) args s 0 0 (AG G)) 2 0 [(0, vR (40, 0, 0)), (1, vI a1)] [] σ
  unfold F_X11_isRight at hF
  refine r_aload_n C 0 0 dX11_isRight_0 rfl rfl ?_
  refine r_aload_n C 0 0 dX11_isRight_1 rfl rfl ?_
  refine r_getR (kf := 24) (d2 := (51, 0, 0)) C dX11_isRight_2 rfl rfl f_X11 (by decide) t_5_82 rfl rfl ?_
  refine r_iconst (v := (4 : Int32)) C dX11_isRight_5 rfl ?_
  refine r_iload_n C 1 1 dX11_isRight_6 rfl rfl ?_
  refine r_imul C dX11_isRight_7 ?_
  obtain ⟨h1, hF⟩ := ck_e hF
  refine r_iaload C (((4 : Int32) * a1).toNatClampNeg) dX11_isRight_8 rfl h1 rfl ?_
  refine r_aload_n C 0 0 dX11_isRight_9 rfl rfl ?_
  refine r_getR (kf := 24) (d2 := (51, 0, 0)) C dX11_isRight_10 rfl rfl f_X11 (by decide) t_5_82 rfl rfl ?_
  refine r_iconst (v := (4 : Int32)) C dX11_isRight_13 rfl ?_
  refine r_iload_n C 1 1 dX11_isRight_14 rfl rfl ?_
  refine r_imul C dX11_isRight_15 ?_
  refine r_iconst (v := (1 : Int32)) C dX11_isRight_16 rfl ?_
  refine r_iadd C dX11_isRight_17 ?_
  obtain ⟨h2, hF⟩ := ck_e hF
  refine r_iaload C ((((4 : Int32) * a1) + (1 : Int32)).toNatClampNeg) dX11_isRight_18 rfl h2 rfl ?_
  refine r_aload_n C 0 0 dX11_isRight_19 rfl rfl ?_
  refine r_getR (kf := 24) (d2 := (51, 0, 0)) C dX11_isRight_20 rfl rfl f_X11 (by decide) t_5_82 rfl rfl ?_
  refine r_iconst (v := (4 : Int32)) C dX11_isRight_23 rfl ?_
  refine r_iload_n C 1 1 dX11_isRight_24 rfl rfl ?_
  refine r_imul C dX11_isRight_25 ?_
  refine r_iconst (v := (2 : Int32)) C dX11_isRight_26 rfl ?_
  refine r_iadd C dX11_isRight_27 ?_
  obtain ⟨h3, hF⟩ := ck_e hF
  refine r_iaload C ((((4 : Int32) * a1) + (2 : Int32)).toNatClampNeg) dX11_isRight_28 rfl h3 rfl ?_
  refine r_iconst (v := (1 : Int32)) C dX11_isRight_29 rfl ?_
  obtain ⟨k5, ek5, hF⟩ := nam_e hF
  have hk5 : ∀ (y4 : Int32) (σ6 : St), k5 y4 σ6 = some (r, σ') → Rt G p l e (lvl 4) s m args below meth c 0 0 (MQ below (va_Qi (fun a b => a = r ∧ b = σ') (Wd G) (AG G)) args s 0 0 (AG G)) 2 38 [(0, vR (40, 0, 0)), (1, vI a1)] [vI y4, vI (σ.1 (51, 0, 0) ((((4 : Int32) * a1) + (1 : Int32)).toNatClampNeg)), vI (σ.1 (51, 0, 0) (((4 : Int32) * a1).toNatClampNeg)), vR (40, 0, 0)] σ6 := by
    intro y4 σ6 hF
    subst ek5
    obtain ⟨r8, σ7, e9, hF⟩ := bd_e hF
    refine r_callV_i (as := [vI (σ.1 (51, 0, 0) (((4 : Int32) * a1).toNatClampNeg)), vI (σ.1 (51, 0, 0) ((((4 : Int32) * a1) + (1 : Int32)).toNatClampNeg)), vI y4]) (st := []) C dX11_isRight_38 (s_X11_lifeAt G l e9) rfl rfl rfl t_6_166 t_6_168 t_s_53 t_1_14 t_6_169 m_X11_lifeAt ⟨Nat.le_of_ble_eq_true rfl, Nat.le_of_ble_eq_true rfl⟩ ⟨rfl, rfl⟩ ⟨Nat.zero_le _, Nat.zero_le _⟩ rfl (Nat.le_of_ble_eq_true rfl) ?_
    refine r_aload_n C 0 0 dX11_isRight_41 rfl rfl ?_
    refine r_getR (kf := 24) (d2 := (51, 0, 0)) C dX11_isRight_42 rfl rfl f_X11 (by decide) t_5_82 rfl rfl ?_
    refine r_iconst (v := (4 : Int32)) C dX11_isRight_45 rfl ?_
    refine r_iload_n C 1 1 dX11_isRight_46 rfl rfl ?_
    refine r_imul C dX11_isRight_47 ?_
    refine r_iconst (v := (3 : Int32)) C dX11_isRight_48 rfl ?_
    refine r_iadd C dX11_isRight_49 ?_
    obtain ⟨h10, hF⟩ := ck_e hF
    refine r_iaload C ((((4 : Int32) * a1) + (3 : Int32)).toNatClampNeg) dX11_isRight_50 rfl h10 rfl ?_
    refine r_icmp_ne C 58 dX11_isRight_51 (by decide)  (fun h11 => ?_) (fun h11 => ?_)
    · have hF := if_f h11 hF
      refine r_iconst (v := (0 : Int32)) C dX11_isRight_58 rfl ?_
      exact r_zreturn C dX11_isRight_59 (nar_z (Or.inl rfl)) (rt_e hF)
    · have hF := if_t h11 hF
      refine r_iconst (v := (1 : Int32)) C dX11_isRight_54 rfl ?_
      refine r_goto C 59 dX11_isRight_55 (by decide) ?_
      exact r_zreturn C dX11_isRight_59 (nar_z (Or.inr rfl)) (rt_e hF)
  refine r_icmp_ne C 37 dX11_isRight_30 (by decide)  (fun h12 => ?_) (fun h12 => ?_)
  · have hF := if_f h12 hF
    refine r_iconst (v := (0 : Int32)) C dX11_isRight_37 rfl ?_
    exact hk5 _ _ hF
  · have hF := if_t h12 hF
    refine r_iconst (v := (1 : Int32)) C dX11_isRight_33 rfl ?_
    refine r_goto C 38 dX11_isRight_34 (by decide) ?_
    exact hk5 _ _ hF
def L_X11_right_4  : Nat → Int32 → Int32 → St → Option (Int32 × St)
  | 0, _, _, _ => none
  | n + 1, v1, v2, τ =>
  (if (τ.1 (40, 0, 0) 23) ≤ v2 then some (v1, τ) else bd (F_X11_isRight v2 τ) fun r2 σ1 => nam (fun (y4 : Int32) (σ6 : St) => nam (v1 ||| y4) fun x7 => nam (v2 + (1 : Int32)) fun x8 => L_X11_right_4 n x7 x8 σ6) fun k5 => (if r2 = 0 then k5 (0 : Int32) σ1 else k5 ((1 : Int32) <<< (v2 &&& 31)) σ1))
def F_X11_right  (σ : St) : Option (Int32 × St) :=
  L_X11_right_4  FU (0 : Int32) (0 : Int32) σ 
set_option maxRecDepth 20000 in
set_option maxHeartbeats 4000000 in
theorem l_X11_right_4 {G : Gx} {p : Program} {l : Launch} {e : Env} {s : State} {m : MethodId} {args : Array Value} {below : List Frame} {meth : Method} {c : Code} (C : Cx G p s m args meth c (some .int) 3 RX11 cX11_right)  {σ' : St} {r : Int32} : ∀ (n : Nat) (v1 : Int32) (v2 : Int32) (τ : St), L_X11_right_4  n v1 v2 τ = some (r, σ') → Rt G p l e (lvl 5) s m args below meth c 0 0 (MQ below (va_Qi (fun a b => a = r ∧ b = σ') (Wd G) (AG G)) args s 0 0 (AG G)) 3 4 [(0, vR (40, 0, 0)), (1, vI v1), (2, vI v2)] [] τ := by
  intro n
  induction n with
  | zero => intro v1 v2 τ hF; cases hF
  | succ n ih =>
    intro v1 v2 τ hF
    unfold L_X11_right_4 at hF
    refine r_iload_n C 2 2 dX11_right_4 rfl rfl ?_
    refine r_aload_n C 0 0 dX11_right_5 rfl rfl ?_
    refine r_getI (kf := 23) C dX11_right_6 rfl rfl f_X11 (by decide) t_5_81 rfl ?_
    refine r_icmp_ge C 36 dX11_right_9 (by decide)  (fun h10 => ?_) (fun h10 => ?_)
    · have hF := if_t h10 hF
      refine r_iload_n C 1 1 dX11_right_36 rfl rfl ?_
      exact r_ireturn C dX11_right_37 (rt_e hF)
    · have hF := if_f h10 hF
      refine r_iload_n C 1 1 dX11_right_12 rfl rfl ?_
      refine r_aload_n C 0 0 dX11_right_13 rfl rfl ?_
      refine r_iload_n C 2 2 dX11_right_14 rfl rfl ?_
      obtain ⟨r2, σ1, e3, hF⟩ := bd_e hF
      refine r_callV_i (as := [vI v2]) (st := [vI v1]) C dX11_right_15 (s_X11_isRight G l e3) rfl rfl rfl t_6_220 t_6_222 t_s_57 t_1_14 t_6_223 m_X11_isRight ⟨Nat.le_of_ble_eq_true rfl, Nat.le_of_ble_eq_true rfl⟩ ⟨rfl, rfl⟩ ⟨Nat.zero_le _, Nat.zero_le _⟩ rfl (Nat.le_of_ble_eq_true rfl) ?_
      obtain ⟨k5, ek5, hF⟩ := nam_e hF
      have hk5 : ∀ (y4 : Int32) (σ6 : St), k5 y4 σ6 = some (r, σ') → Rt G p l e (lvl 5) s m args below meth c 0 0 (MQ below (va_Qi (fun a b => a = r ∧ b = σ') (Wd G) (AG G)) args s 0 0 (AG G)) 3 28 [(0, vR (40, 0, 0)), (2, vI v2)] [vI y4, vI v1] σ6 := by
        intro y4 σ6 hF
        subst ek5
        refine r_ior C dX11_right_28 ?_
        obtain ⟨x7, ex7, hF⟩ := nam_e hF
        refine r_topI ex7 ?_
        refine r_istore_n (ls2 := [(1, vI x7), (0, vR (40, 0, 0)), (2, vI v2)]) C dX11_right_29 1 rfl (by decide) rfl ?_
        obtain ⟨x8, ex8, hF⟩ := nam_e hF
        refine r_iinc (v := x8) (ls2 := [(2, vI x8), (1, vI x7), (0, vR (40, 0, 0))]) C 2 dX11_right_30 rfl ex8.symm (by decide) rfl ?_
        refine r_goto C 4 dX11_right_33 (by decide) ?_
        refine r_drop (ls2 := [(0, vR (40, 0, 0)), (1, vI x7), (2, vI x8)]) [2, 1, 0] rfl ?_
        exact ih _ _ _ hF
      refine r_if_eq C 27 dX11_right_18 (by decide)  (fun h9 => ?_) (fun h9 => ?_)
      · have hF := if_t h9 hF
        refine r_iconst (v := (0 : Int32)) C dX11_right_27 rfl ?_
        refine r_drop (ls2 := [(0, vR (40, 0, 0)), (2, vI v2)]) [0, 2] rfl ?_
        exact hk5 _ _ hF
      · have hF := if_f h9 hF
        refine r_iconst (v := (1 : Int32)) C dX11_right_21 rfl ?_
        refine r_iload_n C 2 2 dX11_right_22 rfl rfl ?_
        refine r_ishl C dX11_right_23 ?_
        refine r_goto C 28 dX11_right_24 (by decide) ?_
        refine r_drop (ls2 := [(0, vR (40, 0, 0)), (2, vI v2)]) [0, 2] rfl ?_
        exact hk5 _ _ hF
set_option maxRecDepth 20000 in
set_option maxHeartbeats 4000000 in
theorem s_X11_right (G : Gx) (l : Launch)  {σ σ' : St} {r : Int32} (hF : F_X11_right  σ = some (r, σ')) : Sp G l yX11_right cX11_right 3 (some .int) (lvl 5) [vR (40, 0, 0)] σ (va_Qi (fun a b => a = r ∧ b = σ') (Wd G) (AG G)) := by
  refine Sp_of (own := RX11) (by decide) rfl (Nat.le_of_ble_eq_true rfl) ?_
  intro p e s m args below meth c C
  show Rt G p l e (lvl 5) s m args below meth c 0 0 (MQ below (va_Qi (fun a b => a = r ∧ b = σ') (Wd G) (AG G)) args s 0 0 (AG G)) 3 0 [(0, vR (40, 0, 0))] [] σ
  unfold F_X11_right at hF
  refine r_iconst (v := (0 : Int32)) C dX11_right_0 rfl ?_
  refine r_istore_n (ls2 := [(1, vI (0 : Int32)), (0, vR (40, 0, 0))]) C dX11_right_1 1 rfl (by decide) rfl ?_
  refine r_iconst (v := (0 : Int32)) C dX11_right_2 rfl ?_
  refine r_istore_n (ls2 := [(2, vI (0 : Int32)), (1, vI (0 : Int32)), (0, vR (40, 0, 0))]) C dX11_right_3 2 rfl (by decide) rfl ?_
  refine r_drop (ls2 := [(0, vR (40, 0, 0)), (1, vI (0 : Int32)), (2, vI (0 : Int32))]) [2, 1, 0] rfl ?_
  refine l_X11_right_4 C   _ _ _ _ hF
def L_X11_fits_53 (c1 : Int32) (c2 : Int32) : Nat → Int32 → Int32 → Int32 → Int32 → St → (Int32 → Int32 → Int32 → St → Option (Int32 × St)) → Option (Int32 × St)
  | 0, _, _, _, _, _, _ => none
  | n + 1, v3, v4, v5, v6, τ, kx112 =>
  (if (99 : Int32) < v6 then kx112 v3 v4 v5 τ else ck (inb (0 : Int32) 9) (nam (uI τ (43, 0, 0) 0 v6) fun σ11 => bd (F_X11_right  σ11) fun r13 σ12 => nam (fun (y15 : Int32) (y16 : Int32) (y17 : Int32) (σ19 : St) => nam (v6 + (1 : Int32)) fun x20 => L_X11_fits_53 c1 c2 n y15 y16 y17 x20 σ19 kx112) fun k18 => (if r13 = (((1 : Int32) <<< ((σ12.1 (40, 0, 0) 23) &&& 31)) - (1 : Int32)) then nam (v3 + (1 : Int32)) fun x21 => nam (fun (y22 : Int32) (σ24 : St) => k18 x21 y22 v6 σ24) fun k23 => (if v4 = (-4 : Int32) then k23 v6 σ12 else k23 v4 σ12) else k18 v3 v4 v5 σ12)))
def F_X11_fits (a1 : Int32) (σ : St) : Option (Int32 × St) :=
  bd (F_X11_in (a1.toInt64) (0 : Int64) (2 : Int64) σ) fun r2 σ1 => (if r2 = 0 then some ((-1 : Int32), σ1) else ck (inb (0 : Int32) 9) (nam (σ1.1 (43, 0, 0) 0) fun x5 => ck (inb (1 : Int32) 9) (nam (fun (y7 : Int32) (σ9 : St) => L_X11_fits_53 a1 x5 FU (0 : Int32) (-4 : Int32) (-4 : Int32) y7 σ9 (fun (y29 : Int32) (y30 : Int32) (y31 : Int32) (σ28 : St) => ck (inb (0 : Int32) 9) (nam (uI σ28 (43, 0, 0) 0 x5) fun σ33 => (if a1 = 0 then some (y29, σ33) else (if a1 = (1 : Int32) then some (y30, σ33) else some (y31, σ33)))))) fun k8 => (if (1 : Int32) ≤ (σ1.1 (43, 0, 0) 1) then ck (inb (1 : Int32) 9) (k8 (σ1.1 (43, 0, 0) 1) σ1) else k8 (1 : Int32) σ1))))
set_option maxRecDepth 20000 in
set_option maxHeartbeats 4000000 in
theorem l_X11_fits_53 {G : Gx} {p : Program} {l : Launch} {e : Env} {s : State} {m : MethodId} {args : Array Value} {below : List Frame} {meth : Method} {c : Code} (C : Cx G p s m args meth c (some .int) 7 RX11 cX11_fits) (c1 : Int32) (c2 : Int32) {σ' : St} {r : Int32} (kx112 : Int32 → Int32 → Int32 → St → Option (Int32 × St)) (hkx112 : ∀ (w3 : Int32) (w4 : Int32) (w5 : Int32) (τ : St), kx112 w3 w4 w5 τ = some (r, σ') → Rt G p l e (lvl 6) s m args below meth c 0 0 (MQ below (va_Qi (fun a b => a = r ∧ b = σ') (Wd G) (AG G)) args s 0 0 (AG G)) 7 112 [(0, vR (40, 0, 0)), (1, vI c1), (2, vI c2), (3, vI w3), (4, vI w4), (5, vI w5)] [] τ) : ∀ (n : Nat) (v3 : Int32) (v4 : Int32) (v5 : Int32) (v6 : Int32) (τ : St), L_X11_fits_53 c1 c2 n v3 v4 v5 v6 τ kx112 = some (r, σ') → Rt G p l e (lvl 6) s m args below meth c 0 0 (MQ below (va_Qi (fun a b => a = r ∧ b = σ') (Wd G) (AG G)) args s 0 0 (AG G)) 7 53 [(0, vR (40, 0, 0)), (1, vI c1), (2, vI c2), (3, vI v3), (4, vI v4), (5, vI v5), (6, vI v6)] [] τ := by
  intro n
  induction n with
  | zero => intro v3 v4 v5 v6 τ hF; cases hF
  | succ n ih =>
    intro v3 v4 v5 v6 τ hF
    unfold L_X11_fits_53 at hF
    refine r_iload C 6 dX11_fits_53 rfl ?_
    refine r_bipush (v := (99 : Int32)) C dX11_fits_55 rfl ?_
    refine r_icmp_gt C 112 dX11_fits_57 (by decide)  (fun h27 => ?_) (fun h27 => ?_)
    · have hF := if_t h27 hF
      refine r_drop (ls2 := [(0, vR (40, 0, 0)), (1, vI c1), (2, vI c2), (3, vI v3), (4, vI v4), (5, vI v5)]) [0, 1, 2, 3, 4, 5] rfl ?_
      exact hkx112 _ _ _ _ hF
    · have hF := if_f h27 hF
      refine r_aload_n C 0 0 dX11_fits_60 rfl rfl ?_
      refine r_getR (kf := 2) (d2 := (43, 0, 0)) C dX11_fits_61 rfl rfl f_X11 (by decide) t_5_60 rfl rfl ?_
      refine r_iconst (v := (0 : Int32)) C dX11_fits_64 rfl ?_
      refine r_iload C 6 dX11_fits_65 rfl ?_
      obtain ⟨h10, hF⟩ := ck_e hF
      obtain ⟨σ11, eσ11, hF⟩ := nam_e hF
      refine r_iastore C 0 dX11_fits_67 rfl h10 rfl eσ11 ?_
      refine r_aload_n C 0 0 dX11_fits_68 rfl rfl ?_
      obtain ⟨r13, σ12, e14, hF⟩ := bd_e hF
      refine r_callV_i (as := []) (st := []) C dX11_fits_69 (s_X11_right G l e14) rfl rfl rfl t_6_228 t_6_217 t_6_218 t_1_14 t_6_219 m_X11_right ⟨Nat.le_of_ble_eq_true rfl, Nat.le_of_ble_eq_true rfl⟩ ⟨rfl, rfl⟩ ⟨Nat.zero_le _, Nat.zero_le _⟩ rfl (Nat.le_of_ble_eq_true rfl) ?_
      refine r_iconst (v := (1 : Int32)) C dX11_fits_72 rfl ?_
      refine r_aload_n C 0 0 dX11_fits_73 rfl rfl ?_
      refine r_getI (kf := 23) C dX11_fits_74 rfl rfl f_X11 (by decide) t_5_81 rfl ?_
      refine r_ishl C dX11_fits_77 ?_
      refine r_iconst (v := (1 : Int32)) C dX11_fits_78 rfl ?_
      refine r_isub C dX11_fits_79 ?_
      obtain ⟨k18, ek18, hF⟩ := nam_e hF
      have hk18 : ∀ (y15 : Int32) (y16 : Int32) (y17 : Int32) (σ19 : St), k18 y15 y16 y17 σ19 = some (r, σ') → Rt G p l e (lvl 6) s m args below meth c 0 0 (MQ below (va_Qi (fun a b => a = r ∧ b = σ') (Wd G) (AG G)) args s 0 0 (AG G)) 7 106 [(0, vR (40, 0, 0)), (1, vI c1), (2, vI c2), (3, vI y15), (4, vI y16), (5, vI y17), (6, vI v6)] [] σ19 := by
        intro y15 y16 y17 σ19 hF
        subst ek18
        obtain ⟨x20, ex20, hF⟩ := nam_e hF
        refine r_iinc (v := x20) (ls2 := [(6, vI x20), (0, vR (40, 0, 0)), (1, vI c1), (2, vI c2), (3, vI y15), (4, vI y16), (5, vI y17)]) C 6 dX11_fits_106 rfl ex20.symm (by decide) rfl ?_
        refine r_goto C 53 dX11_fits_109 (by decide) ?_
        refine r_drop (ls2 := [(0, vR (40, 0, 0)), (1, vI c1), (2, vI c2), (3, vI y15), (4, vI y16), (5, vI y17), (6, vI x20)]) [1, 2, 3, 4, 5, 6, 0] rfl ?_
        exact ih _ _ _ _ _ hF
      refine r_icmp_ne C 106 dX11_fits_80 (by decide)  (fun h26 => ?_) (fun h26 => ?_)
      · have hF := if_f h26 hF
        exact hk18 _ _ _ _ hF
      · have hF := if_t h26 hF
        obtain ⟨x21, ex21, hF⟩ := nam_e hF
        refine r_iinc (v := x21) (ls2 := [(3, vI x21), (0, vR (40, 0, 0)), (1, vI c1), (2, vI c2), (4, vI v4), (5, vI v5), (6, vI v6)]) C 3 dX11_fits_83 rfl ex21.symm (by decide) rfl ?_
        refine r_iload C 4 dX11_fits_86 rfl ?_
        refine r_bipush (v := (-4 : Int32)) C dX11_fits_88 rfl ?_
        obtain ⟨k23, ek23, hF⟩ := nam_e hF
        have hk23 : ∀ (y22 : Int32) (σ24 : St), k23 y22 σ24 = some (r, σ') → Rt G p l e (lvl 6) s m args below meth c 0 0 (MQ below (va_Qi (fun a b => a = r ∧ b = σ') (Wd G) (AG G)) args s 0 0 (AG G)) 7 100 [(0, vR (40, 0, 0)), (1, vI c1), (2, vI c2), (3, vI x21), (6, vI v6)] [vI y22] σ24 := by
          intro y22 σ24 hF
          subst ek23
          refine r_istore (ls2 := [(4, vI y22), (0, vR (40, 0, 0)), (1, vI c1), (2, vI c2), (3, vI x21), (6, vI v6)]) C dX11_fits_100 (by decide) rfl ?_
          refine r_iload C 5 dX11_fits_102 rfl ?_
          refine r_istore (ls2 := [(5, vI v6), (4, vI y22), (0, vR (40, 0, 0)), (1, vI c1), (2, vI c2), (3, vI x21), (6, vI v6)]) C dX11_fits_104 (by decide) rfl ?_
          refine r_drop (ls2 := [(0, vR (40, 0, 0)), (1, vI c1), (2, vI c2), (3, vI x21), (4, vI y22), (5, vI v6), (6, vI v6)]) [2, 3, 4, 5, 1, 0, 6] rfl ?_
          exact hk18 _ _ _ _ hF
        refine r_icmp_ne C 98 dX11_fits_90 (by decide)  (fun h25 => ?_) (fun h25 => ?_)
        · have hF := if_f h25 hF
          refine r_iload C 4 dX11_fits_98 rfl ?_
          refine r_drop (ls2 := [(0, vR (40, 0, 0)), (1, vI c1), (2, vI c2), (3, vI x21), (6, vI v6)]) [1, 2, 3, 0, 6] rfl ?_
          exact hk23 _ _ hF
        · have hF := if_t h25 hF
          refine r_iload C 6 dX11_fits_93 rfl ?_
          refine r_goto C 100 dX11_fits_95 (by decide) ?_
          refine r_drop (ls2 := [(0, vR (40, 0, 0)), (1, vI c1), (2, vI c2), (3, vI x21), (6, vI v6)]) [1, 2, 3, 0, 6] rfl ?_
          exact hk23 _ _ hF
set_option maxRecDepth 20000 in
set_option maxHeartbeats 4000000 in
theorem s_X11_fits (G : Gx) (l : Launch) {a1 : Int32} {σ σ' : St} {r : Int32} (hF : F_X11_fits a1 σ = some (r, σ')) : Sp G l yX11_fits cX11_fits 7 (some .int) (lvl 6) [vR (40, 0, 0), vI a1] σ (va_Qi (fun a b => a = r ∧ b = σ') (Wd G) (AG G)) := by
  refine Sp_of (own := RX11) (by decide) rfl (Nat.le_of_ble_eq_true rfl) ?_
  intro p e s m args below meth c C
  show Rt G p l e (lvl 6) s m args below meth c 0 0 (MQ below (va_Qi (fun a b => a = r ∧ b = σ') (Wd G) (AG G)) args s 0 0 (AG G)) 7 0 [(0, vR (40, 0, 0)), (1, vI a1)] [] σ
  unfold F_X11_fits at hF
  refine r_iload_n C 1 1 dX11_fits_0 rfl rfl ?_
  refine r_i2l C dX11_fits_1 ?_
  refine r_lconst (v := (0 : Int64)) C dX11_fits_2 rfl ?_
  refine r_ldc2_w (v := (2 : Int64)) C dX11_fits_3 t_6_141 ?_
  obtain ⟨r2, σ1, e3, hF⟩ := bd_e hF
  refine r_callS_i (as := [vL (a1.toInt64), vL (0 : Int64), vL (2 : Int64)]) (st := []) C dX11_fits_6 (s_X11_in G l e3) t_5_155 t_5_156 t_1_14 t_5_157 m_X11_in ⟨Nat.le_of_ble_eq_true rfl, Nat.le_of_ble_eq_true rfl⟩ ⟨rfl, rfl⟩ ⟨Nat.zero_le _, Nat.zero_le _⟩ rfl (Nat.le_of_ble_eq_true rfl) ?_
  refine r_if_ne C 14 dX11_fits_9 (by decide)  (fun h38 => ?_) (fun h38 => ?_)
  · have hF := if_f h38 hF
    refine r_aload_n C 0 0 dX11_fits_14 rfl rfl ?_
    refine r_getR (kf := 2) (d2 := (43, 0, 0)) C dX11_fits_15 rfl rfl f_X11 (by decide) t_5_60 rfl rfl ?_
    refine r_iconst (v := (0 : Int32)) C dX11_fits_18 rfl ?_
    obtain ⟨h4, hF⟩ := ck_e hF
    refine r_iaload C 0 dX11_fits_19 rfl h4 rfl ?_
    obtain ⟨x5, ex5, hF⟩ := nam_e hF
    refine r_topI ex5 ?_
    refine r_istore_n (ls2 := [(2, vI x5), (0, vR (40, 0, 0)), (1, vI a1)]) C dX11_fits_20 2 rfl (by decide) rfl ?_
    refine r_iconst (v := (0 : Int32)) C dX11_fits_21 rfl ?_
    refine r_istore_n (ls2 := [(3, vI (0 : Int32)), (2, vI x5), (0, vR (40, 0, 0)), (1, vI a1)]) C dX11_fits_22 3 rfl (by decide) rfl ?_
    refine r_bipush (v := (-4 : Int32)) C dX11_fits_23 rfl ?_
    refine r_istore (ls2 := [(4, vI (-4 : Int32)), (3, vI (0 : Int32)), (2, vI x5), (0, vR (40, 0, 0)), (1, vI a1)]) C dX11_fits_25 (by decide) rfl ?_
    refine r_bipush (v := (-4 : Int32)) C dX11_fits_27 rfl ?_
    refine r_istore (ls2 := [(5, vI (-4 : Int32)), (4, vI (-4 : Int32)), (3, vI (0 : Int32)), (2, vI x5), (0, vR (40, 0, 0)), (1, vI a1)]) C dX11_fits_29 (by decide) rfl ?_
    refine r_aload_n C 4 0 dX11_fits_31 rfl rfl ?_
    refine r_getR (kf := 2) (d2 := (43, 0, 0)) C dX11_fits_32 rfl rfl f_X11 (by decide) t_5_60 rfl rfl ?_
    refine r_iconst (v := (1 : Int32)) C dX11_fits_35 rfl ?_
    obtain ⟨h6, hF⟩ := ck_e hF
    refine r_iaload C 1 dX11_fits_36 rfl h6 rfl ?_
    refine r_iconst (v := (1 : Int32)) C dX11_fits_37 rfl ?_
    obtain ⟨k8, ek8, hF⟩ := nam_e hF
    have hk8 : ∀ (y7 : Int32) (σ9 : St), k8 y7 σ9 = some (r, σ') → Rt G p l e (lvl 6) s m args below meth c 0 0 (MQ below (va_Qi (fun a b => a = r ∧ b = σ') (Wd G) (AG G)) args s 0 0 (AG G)) 7 51 [(0, vR (40, 0, 0)), (1, vI a1), (2, vI x5), (3, vI (0 : Int32)), (4, vI (-4 : Int32)), (5, vI (-4 : Int32))] [vI y7] σ9 := by
      intro y7 σ9 hF
      subst ek8
      refine r_istore (ls2 := [(6, vI y7), (0, vR (40, 0, 0)), (1, vI a1), (2, vI x5), (3, vI (0 : Int32)), (4, vI (-4 : Int32)), (5, vI (-4 : Int32))]) C dX11_fits_51 (by decide) rfl ?_
      refine r_drop (ls2 := [(0, vR (40, 0, 0)), (1, vI a1), (2, vI x5), (3, vI (0 : Int32)), (4, vI (-4 : Int32)), (5, vI (-4 : Int32)), (6, vI y7)]) [1, 2, 3, 4, 5, 6, 0] rfl ?_
      refine l_X11_fits_53 C a1 x5 _ ?_ _ _ _ _ _ _ hF
      · intro y29 y30 y31 σ28 hF
        refine r_aload_n C 0 0 dX11_fits_112 rfl rfl ?_
        refine r_getR (kf := 2) (d2 := (43, 0, 0)) C dX11_fits_113 rfl rfl f_X11 (by decide) t_5_60 rfl rfl ?_
        refine r_iconst (v := (0 : Int32)) C dX11_fits_116 rfl ?_
        refine r_iload_n C 2 2 dX11_fits_117 rfl rfl ?_
        obtain ⟨h32, hF⟩ := ck_e hF
        obtain ⟨σ33, eσ33, hF⟩ := nam_e hF
        refine r_iastore C 0 dX11_fits_118 rfl h32 rfl eσ33 ?_
        refine r_iload_n C 1 1 dX11_fits_119 rfl rfl ?_
        refine r_if_ne C 127 dX11_fits_120 (by decide)  (fun h35 => ?_) (fun h35 => ?_)
        · have hF := if_f h35 hF
          refine r_iload_n C 1 1 dX11_fits_127 rfl rfl ?_
          refine r_iconst (v := (1 : Int32)) C dX11_fits_128 rfl ?_
          refine r_icmp_ne C 137 dX11_fits_129 (by decide)  (fun h34 => ?_) (fun h34 => ?_)
          · have hF := if_f h34 hF
            refine r_iload C 5 dX11_fits_137 rfl ?_
            exact r_ireturn C dX11_fits_139 (rt_e hF)
          · have hF := if_t h34 hF
            refine r_iload C 4 dX11_fits_132 rfl ?_
            refine r_goto C 139 dX11_fits_134 (by decide) ?_
            exact r_ireturn C dX11_fits_139 (rt_e hF)
        · have hF := if_t h35 hF
          refine r_iload_n C 3 3 dX11_fits_123 rfl rfl ?_
          refine r_goto C 139 dX11_fits_124 (by decide) ?_
          exact r_ireturn C dX11_fits_139 (rt_e hF)
    refine r_icmp_ge C 45 dX11_fits_38 (by decide)  (fun h37 => ?_) (fun h37 => ?_)
    · have hF := if_t h37 hF
      refine r_aload_n C 4 0 dX11_fits_45 rfl rfl ?_
      refine r_getR (kf := 2) (d2 := (43, 0, 0)) C dX11_fits_46 rfl rfl f_X11 (by decide) t_5_60 rfl rfl ?_
      refine r_iconst (v := (1 : Int32)) C dX11_fits_49 rfl ?_
      obtain ⟨h36, hF⟩ := ck_e hF
      refine r_iaload C 1 dX11_fits_50 rfl h36 rfl ?_
      refine r_drop (ls2 := [(0, vR (40, 0, 0)), (1, vI a1), (2, vI x5), (3, vI (0 : Int32)), (4, vI (-4 : Int32)), (5, vI (-4 : Int32))]) [4, 5, 3, 2, 1, 0] rfl ?_
      exact hk8 _ _ hF
    · have hF := if_f h37 hF
      refine r_iconst (v := (1 : Int32)) C dX11_fits_41 rfl ?_
      refine r_goto C 51 dX11_fits_42 (by decide) ?_
      refine r_drop (ls2 := [(0, vR (40, 0, 0)), (1, vI a1), (2, vI x5), (3, vI (0 : Int32)), (4, vI (-4 : Int32)), (5, vI (-4 : Int32))]) [4, 5, 3, 2, 1, 0] rfl ?_
      exact hk8 _ _ hF
  · have hF := if_t h38 hF
    refine r_iconst (v := (-1 : Int32)) C dX11_fits_12 rfl ?_
    exact r_ireturn C dX11_fits_13 (rt_e hF)
