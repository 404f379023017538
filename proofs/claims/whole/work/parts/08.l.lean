def L_X11_falls_53 (c1 : Int32) (c2 : Int32) (c3 : Int32) : Nat → Int64 → Int32 → St → Option (Int64 × St)
  | 0, _, _, _ => none
  | n + 1, v4, v6, τ =>
  (if (60 : Int32) < v6 then some (v4, τ) else bd (F_X11_along c1 v6 c2 τ) fun r13 σ12 => nam (fun (y15 : Int64) (σ17 : St) => nam (v4 ||| y15) fun x18 => nam (v6 + (1 : Int32)) fun x19 => L_X11_falls_53 c1 c2 c3 n x18 x19 σ17) fun k16 => (if (σ12.1 (40, 0, 0) 18) = 0 then k16 (0 : Int64) σ12 else (if (σ12.1 (40, 0, 0) 15) = c3 then k16 ((1 : Int64) <<< (v6.toInt64 &&& 63)) σ12 else k16 (0 : Int64) σ12)))
def F_X11_falls (a1 : Int32) (a2 : Int32) (a3 : Int32) (σ : St) : Option (Int64 × St) :=
  bd (F_X11_isDrop a1 (1 : Int32) a2 σ) fun r2 σ1 => (if r2 = 0 then some ((-1 : Int64), σ1) else bd (F_X11_isCell a3 σ1) fun r5 σ4 => (if r5 = 0 then some ((-1 : Int64), σ4) else ck (inb a1 576) (bd (F_X11_isShut (σ4.1 (41, 0, 0) (a1.toNatClampNeg)) σ4) fun r9 σ8 => (if r9 = 0 then ck (inb a3 576) ((if (σ8.1 (41, 0, 0) (a3.toNatClampNeg)) = (6 : Int32) then L_X11_falls_53 a1 a2 a3 FU (0 : Int64) (1 : Int32) σ8  else some ((-2 : Int64), σ8))) else some ((-2 : Int64), σ8)))))
set_option maxRecDepth 20000 in
set_option maxHeartbeats 4000000 in
theorem l_X11_falls_53 {G : Gx} {p : Program} {l : Launch} {e : Env} {s : State} {m : MethodId} {args : Array Value} {below : List Frame} {meth : Method} {c : Code} (C : Cx G p s m args meth c (some .long) 7 RX11 cX11_falls) (c1 : Int32) (c2 : Int32) (c3 : Int32) {σ' : St} {r : Int64} : ∀ (n : Nat) (v4 : Int64) (v6 : Int32) (τ : St), L_X11_falls_53 c1 c2 c3 n v4 v6 τ = some (r, σ') → Rt G p l e (lvl 4) s m args below meth c 0 0 (MQ below (va_Ql (fun a b => a = r ∧ b = σ') (Wd G) (AG G)) args s 0 0 (AG G)) 7 53 [(0, vR (40, 0, 0)), (1, vI c1), (2, vI c2), (3, vI c3), (4, vL v4), (6, vI v6)] [] τ := by
  intro n
  induction n with
  | zero => intro v4 v6 τ hF; cases hF
  | succ n ih =>
    intro v4 v6 τ hF
    unfold L_X11_falls_53 at hF
    refine r_iload C 5 dX11_falls_53 rfl ?_
    refine r_bipush (v := (60 : Int32)) C dX11_falls_55 rfl ?_
    refine r_icmp_gt C 103 dX11_falls_57 (by decide)  (fun h22 => ?_) (fun h22 => ?_)
    · have hF := if_t h22 hF
      refine r_lload C 4 dX11_falls_103 rfl ?_
      exact r_lreturn C dX11_falls_105 (rt_e hF)
    · have hF := if_f h22 hF
      refine r_aload_n C 0 0 dX11_falls_60 rfl rfl ?_
      refine r_iload_n C 1 1 dX11_falls_61 rfl rfl ?_
      refine r_iload C 5 dX11_falls_62 rfl ?_
      refine r_iload_n C 2 2 dX11_falls_64 rfl rfl ?_
      obtain ⟨r13, σ12, e14, hF⟩ := bd_e hF
      refine r_callV_i (as := [vI c1, vI v6, vI c2]) (st := []) C dX11_falls_65 (s_X11_along G l e14) rfl rfl rfl t_6_140 t_6_142 t_s_52 t_1_14 t_6_143 m_X11_along ⟨Nat.le_of_ble_eq_true rfl, Nat.le_of_ble_eq_true rfl⟩ ⟨rfl, rfl⟩ ⟨Nat.zero_le _, Nat.zero_le _⟩ rfl (Nat.le_of_ble_eq_true rfl) ?_
      refine r_pop_i C dX11_falls_68 ?_
      refine r_lload C 4 dX11_falls_69 rfl ?_
      refine r_aload_n C 0 0 dX11_falls_71 rfl rfl ?_
      refine r_getI (kf := 18) C dX11_falls_72 rfl rfl f_X11 (by decide) t_5_74 rfl ?_
      obtain ⟨k16, ek16, hF⟩ := nam_e hF
      have hk16 : ∀ (y15 : Int64) (σ17 : St), k16 y15 σ17 = some (r, σ') → Rt G p l e (lvl 4) s m args below meth c 0 0 (MQ below (va_Ql (fun a b => a = r ∧ b = σ') (Wd G) (AG G)) args s 0 0 (AG G)) 7 94 [(0, vR (40, 0, 0)), (1, vI c1), (2, vI c2), (3, vI c3), (6, vI v6)] [vL y15, vL v4] σ17 := by
        intro y15 σ17 hF
        subst ek16
        refine r_lor C dX11_falls_94 ?_
        obtain ⟨x18, ex18, hF⟩ := nam_e hF
        refine r_topL ex18 ?_
        refine r_lstore (ls2 := [(4, vL x18), (0, vR (40, 0, 0)), (1, vI c1), (2, vI c2), (3, vI c3), (6, vI v6)]) C dX11_falls_95 (by decide) rfl ?_
        obtain ⟨x19, ex19, hF⟩ := nam_e hF
        refine r_iinc (v := x19) (ls2 := [(6, vI x19), (4, vL x18), (0, vR (40, 0, 0)), (1, vI c1), (2, vI c2), (3, vI c3)]) C 5 dX11_falls_97 rfl ex19.symm (by decide) rfl ?_
        refine r_goto C 53 dX11_falls_100 (by decide) ?_
        refine r_drop (ls2 := [(0, vR (40, 0, 0)), (1, vI c1), (2, vI c2), (3, vI c3), (4, vL x18), (6, vI x19)]) [2, 3, 4, 5, 1, 0] rfl ?_
        exact ih _ _ _ hF
      refine r_if_eq C 93 dX11_falls_75 (by decide)  (fun h21 => ?_) (fun h21 => ?_)
      · have hF := if_t h21 hF
        refine r_lconst (v := (0 : Int64)) C dX11_falls_93 rfl ?_
        refine r_drop (ls2 := [(0, vR (40, 0, 0)), (1, vI c1), (2, vI c2), (3, vI c3), (6, vI v6)]) [0, 1, 2, 3, 5] rfl ?_
        exact hk16 _ _ hF
      · have hF := if_f h21 hF
        refine r_aload_n C 0 0 dX11_falls_78 rfl rfl ?_
        refine r_getI (kf := 15) C dX11_falls_79 rfl rfl f_X11 (by decide) t_5_71 rfl ?_
        refine r_iload_n C 3 3 dX11_falls_82 rfl rfl ?_
        refine r_icmp_ne C 93 dX11_falls_83 (by decide)  (fun h20 => ?_) (fun h20 => ?_)
        · have hF := if_f h20 hF
          refine r_lconst (v := (0 : Int64)) C dX11_falls_93 rfl ?_
          refine r_drop (ls2 := [(0, vR (40, 0, 0)), (1, vI c1), (2, vI c2), (3, vI c3), (6, vI v6)]) [0, 1, 2, 3, 5] rfl ?_
          exact hk16 _ _ hF
        · have hF := if_t h20 hF
          refine r_lconst (v := (1 : Int64)) C dX11_falls_86 rfl ?_
          refine r_iload C 5 dX11_falls_87 rfl ?_
          refine r_lshl C dX11_falls_89 ?_
          refine r_goto C 94 dX11_falls_90 (by decide) ?_
          refine r_drop (ls2 := [(0, vR (40, 0, 0)), (1, vI c1), (2, vI c2), (3, vI c3), (6, vI v6)]) [0, 1, 2, 3, 5] rfl ?_
          exact hk16 _ _ hF
set_option maxRecDepth 20000 in
set_option maxHeartbeats 4000000 in
theorem s_X11_falls (G : Gx) (l : Launch) {a1 : Int32} {a2 : Int32} {a3 : Int32} {σ σ' : St} {r : Int64} (hF : F_X11_falls a1 a2 a3 σ = some (r, σ')) : Sp G l yX11_falls cX11_falls 7 (some .long) (lvl 4) [vR (40, 0, 0), vI a1, vI a2, vI a3] σ (va_Ql (fun a b => a = r ∧ b = σ') (Wd G) (AG G)) := by
  refine Sp_of (own := RX11) (by decide) rfl (Nat.le_of_ble_eq_true rfl) ?_
  intro p e s m args below meth c C
  show Rt G p l e (lvl 4) s m args below meth c 0 0 (MQ below (va_Ql (fun a b => a = r ∧ b = σ') (Wd G) (AG G)) args s 0 0 (AG G)) 7 0 [(0, vR (40, 0, 0)), (1, vI a1), (2, vI a2), (3, vI a3)] [] σ
  unfold F_X11_falls at hF
  refine r_iload_n C 1 1 dX11_falls_0 rfl rfl ?_
  refine r_iconst (v := (1 : Int32)) C dX11_falls_1 rfl ?_
  refine r_iload_n C 2 2 dX11_falls_2 rfl rfl ?_
  obtain ⟨r2, σ1, e3, hF⟩ := bd_e hF
  refine r_callS_i (as := [vI a1, vI (1 : Int32), vI a2]) (st := []) C dX11_falls_3 (s_X11_isDrop G l e3) t_6_12 t_6_13 t_1_14 t_6_14 m_X11_isDrop ⟨Nat.le_of_ble_eq_true rfl, Nat.le_of_ble_eq_true rfl⟩ ⟨rfl, rfl⟩ ⟨Nat.zero_le _, Nat.zero_le _⟩ rfl (Nat.le_of_ble_eq_true rfl) ?_
  refine r_if_eq C 16 dX11_falls_6 (by decide)  (fun h26 => ?_) (fun h26 => ?_)
  · have hF := if_t h26 hF
    refine r_ldc2_w (v := (-1 : Int64)) C dX11_falls_16 t_6_148 ?_
    exact r_lreturn C dX11_falls_19 (rt_e hF)
  · have hF := if_f h26 hF
    refine r_iload_n C 3 3 dX11_falls_9 rfl rfl ?_
    obtain ⟨r5, σ4, e6, hF⟩ := bd_e hF
    refine r_callS_i (as := [vI a3]) (st := []) C dX11_falls_10 (s_X11_isCell G l e6) t_5_223 t_5_224 t_1_14 t_5_225 m_X11_isCell ⟨Nat.le_of_ble_eq_true rfl, Nat.le_of_ble_eq_true rfl⟩ ⟨rfl, rfl⟩ ⟨Nat.zero_le _, Nat.zero_le _⟩ rfl (Nat.le_of_ble_eq_true rfl) ?_
    refine r_if_ne C 20 dX11_falls_13 (by decide)  (fun h25 => ?_) (fun h25 => ?_)
    · have hF := if_f h25 hF
      refine r_aload_n C 0 0 dX11_falls_20 rfl rfl ?_
      refine r_getR (kf := 0) (d2 := (41, 0, 0)) C dX11_falls_21 rfl rfl f_X11 (by decide) t_5_56 rfl rfl ?_
      refine r_iload_n C 1 1 dX11_falls_24 rfl rfl ?_
      obtain ⟨h7, hF⟩ := ck_e hF
      refine r_iaload C (a1.toNatClampNeg) dX11_falls_25 rfl h7 rfl ?_
      obtain ⟨r9, σ8, e10, hF⟩ := bd_e hF
      refine r_callS_i (as := [vI (σ4.1 (41, 0, 0) (a1.toNatClampNeg))]) (st := []) C dX11_falls_26 (s_X11_isShut G l e10) t_5_232 t_5_233 t_1_14 t_5_234 m_X11_isShut ⟨Nat.le_of_ble_eq_true rfl, Nat.le_of_ble_eq_true rfl⟩ ⟨rfl, rfl⟩ ⟨Nat.zero_le _, Nat.zero_le _⟩ rfl (Nat.le_of_ble_eq_true rfl) ?_
      refine r_if_ne C 43 dX11_falls_29 (by decide)  (fun h24 => ?_) (fun h24 => ?_)
      · have hF := if_f h24 hF
        refine r_ldc2_w (v := (-2 : Int64)) C dX11_falls_43 t_6_149 ?_
        exact r_lreturn C dX11_falls_46 (rt_e hF)
      · have hF := if_t h24 hF
        refine r_aload_n C 0 0 dX11_falls_32 rfl rfl ?_
        refine r_getR (kf := 0) (d2 := (41, 0, 0)) C dX11_falls_33 rfl rfl f_X11 (by decide) t_5_56 rfl rfl ?_
        refine r_iload_n C 3 3 dX11_falls_36 rfl rfl ?_
        obtain ⟨h11, hF⟩ := ck_e hF
        refine r_iaload C (a3.toNatClampNeg) dX11_falls_37 rfl h11 rfl ?_
        refine r_bipush (v := (6 : Int32)) C dX11_falls_38 rfl ?_
        refine r_icmp_eq C 47 dX11_falls_40 (by decide)  (fun h23 => ?_) (fun h23 => ?_)
        · have hF := if_t h23 hF
          refine r_lconst (v := (0 : Int64)) C dX11_falls_47 rfl ?_
          refine r_lstore (ls2 := [(4, vL (0 : Int64)), (0, vR (40, 0, 0)), (1, vI a1), (2, vI a2), (3, vI a3)]) C dX11_falls_48 (by decide) rfl ?_
          refine r_iconst (v := (1 : Int32)) C dX11_falls_50 rfl ?_
          refine r_istore (ls2 := [(6, vI (1 : Int32)), (4, vL (0 : Int64)), (0, vR (40, 0, 0)), (1, vI a1), (2, vI a2), (3, vI a3)]) C dX11_falls_51 (by decide) rfl ?_
          refine r_drop (ls2 := [(0, vR (40, 0, 0)), (1, vI a1), (2, vI a2), (3, vI a3), (4, vL (0 : Int64)), (6, vI (1 : Int32))]) [2, 3, 4, 5, 1, 0] rfl ?_
          refine l_X11_falls_53 C a1 a2 a3  _ _ _ _ hF
        · have hF := if_f h23 hF
          refine r_ldc2_w (v := (-2 : Int64)) C dX11_falls_43 t_6_149 ?_
          exact r_lreturn C dX11_falls_46 (rt_e hF)
    · have hF := if_t h25 hF
      refine r_ldc2_w (v := (-1 : Int64)) C dX11_falls_16 t_6_148 ?_
      exact r_lreturn C dX11_falls_19 (rt_e hF)
def L_X11_mend_84 (c1 : Int32) (c2 : Int32) (c3 : Int32) (c4 : Int32) (c5 : Int32) (c8 : Int32) (c9 : Int32) : Nat → Int32 → Int32 → Int32 → St → (Int32 → Int32 → St → Option (Int32 × St)) → Option (Int32 × St)
  | 0, _, _, _, _, _ => none
  | n + 1, v6, v7, v10, τ, kx168 =>
  (if (4 : Int32) < v10 then kx168 v6 v7 τ else (if (4 : Int32) < c9 then kx168 v6 v7 τ else ck (inb c8 576) (nam (uI τ (41, 0, 0) (c8.toNatClampNeg) v10) fun σ20 => nam (fun (y21 : Int32) (σ23 : St) => nam (fun (y24 : Int32) (y25 : Int32) (σ27 : St) => nam (v10 + (1 : Int32)) fun x28 => L_X11_mend_84 c1 c2 c3 c4 c5 c8 c9 n y24 y25 x28 σ27 kx168) fun k26 => (if y21 = (-4 : Int32) then k26 v6 v7 σ23 else (if v6 = (-4 : Int32) then k26 y21 (((5 : Int32) * c8) + v10) σ23 else (if v6 ≤ y21 then k26 v6 v7 σ23 else k26 y21 (((5 : Int32) * c8) + v10) σ23)))) fun k22 => (if v10 = c9 then k22 (-4 : Int32) σ20 else bd (F_X11_reachOf c1 c2 c3 c4 σ20) fun r33 σ32 => k22 r33 σ32))))
def L_X11_mend_65 (c1 : Int32) (c2 : Int32) (c3 : Int32) (c4 : Int32) (c5 : Int32) : Nat → Int32 → Int32 → Int32 → St → (Int32 → Int32 → St → Option (Int32 × St)) → Option (Int32 × St)
  | 0, _, _, _, _, _ => none
  | n + 1, v6, v7, v8, τ, kx183 =>
  (if (96 : Int32) ≤ v8 then kx183 v6 v7 τ else ck (inb v8 576) (nam (τ.1 (41, 0, 0) (v8.toNatClampNeg)) fun x18 => L_X11_mend_84 c1 c2 c3 c4 c5 v8 x18 FU v6 v7 (0 : Int32) τ (fun (y39 : Int32) (y40 : Int32) (σ38 : St) => ck (inb v8 576) (nam (uI σ38 (41, 0, 0) (v8.toNatClampNeg) x18) fun σ42 => nam (v8 + (1 : Int32)) fun x43 => L_X11_mend_65 c1 c2 c3 c4 c5 n y39 y40 x43 σ42 kx183))))
def F_X11_mend (a1 : Int32) (a2 : Int32) (a3 : Int32) (a4 : Int32) (a5 : Int32) (σ : St) : Option (Int32 × St) :=
  bd (F_X11_isDrop a1 a2 a3 σ) fun r2 σ1 => (if r2 = 0 then some ((-1 : Int32), σ1) else bd (F_X11_isCell a4 σ1) fun r5 σ4 => (if r5 = 0 then some ((-1 : Int32), σ4) else bd (F_X11_in (a5.toInt64) (0 : Int64) (2 : Int64) σ4) fun r8 σ7 => (if r8 = 0 then some ((-1 : Int32), σ7) else ck (inb a1 576) (bd (F_X11_isShut (σ7.1 (41, 0, 0) (a1.toNatClampNeg)) σ7) fun r12 σ11 => (if r12 = 0 then bd (F_X11_reachOf a1 a2 a3 a4 σ11) fun r15 σ14 => L_X11_mend_65 a1 a2 a3 a4 a5 FU r15 (-4 : Int32) (0 : Int32) σ14 (fun (y46 : Int32) (y47 : Int32) (σ45 : St) => (if y47 = (-4 : Int32) then some ((-4 : Int32), σ45) else (if a5 = 0 then some (y46, σ45) else (if a5 = (1 : Int32) then ck (decide (¬ (5 : Int32) = 0)) (some (y47 / (5 : Int32), σ45)) else ck (decide (¬ (5 : Int32) = 0)) (some (y47 - y47 / (5 : Int32) * (5 : Int32), σ45)))))) else some ((-2 : Int32), σ11))))))
set_option maxRecDepth 20000 in
set_option maxHeartbeats 4000000 in
theorem l_X11_mend_84 {G : Gx} {p : Program} {l : Launch} {e : Env} {s : State} {m : MethodId} {args : Array Value} {below : List Frame} {meth : Method} {c : Code} (C : Cx G p s m args meth c (some .int) 12 RX11 cX11_mend) (c1 : Int32) (c2 : Int32) (c3 : Int32) (c4 : Int32) (c5 : Int32) (c8 : Int32) (c9 : Int32) {σ' : St} {r : Int32} (kx168 : Int32 → Int32 → St → Option (Int32 × St)) (hkx168 : ∀ (w6 : Int32) (w7 : Int32) (τ : St), kx168 w6 w7 τ = some (r, σ') → Rt G p l e (lvl 5) s m args below meth c 0 0 (MQ below (va_Qi (fun a b => a = r ∧ b = σ') (Wd G) (AG G)) args s 0 0 (AG G)) 12 168 [(0, vR (40, 0, 0)), (1, vI c1), (2, vI c2), (3, vI c3), (4, vI c4), (5, vI c5), (6, vI w6), (7, vI w7), (8, vI c8), (9, vI c9)] [] τ) : ∀ (n : Nat) (v6 : Int32) (v7 : Int32) (v10 : Int32) (τ : St), L_X11_mend_84 c1 c2 c3 c4 c5 c8 c9 n v6 v7 v10 τ kx168 = some (r, σ') → Rt G p l e (lvl 5) s m args below meth c 0 0 (MQ below (va_Qi (fun a b => a = r ∧ b = σ') (Wd G) (AG G)) args s 0 0 (AG G)) 12 84 [(0, vR (40, 0, 0)), (1, vI c1), (2, vI c2), (3, vI c3), (4, vI c4), (5, vI c5), (6, vI v6), (7, vI v7), (8, vI c8), (9, vI c9), (10, vI v10)] [] τ := by
  intro n
  induction n with
  | zero => intro v6 v7 v10 τ hF; cases hF
  | succ n ih =>
    intro v6 v7 v10 τ hF
    unfold L_X11_mend_84 at hF
    refine r_iload C 10 dX11_mend_84 rfl ?_
    refine r_iconst (v := (4 : Int32)) C dX11_mend_86 rfl ?_
    refine r_icmp_gt C 168 dX11_mend_87 (by decide)  (fun h37 => ?_) (fun h37 => ?_)
    · have hF := if_t h37 hF
      refine r_drop (ls2 := [(0, vR (40, 0, 0)), (1, vI c1), (2, vI c2), (3, vI c3), (4, vI c4), (5, vI c5), (6, vI v6), (7, vI v7), (8, vI c8), (9, vI c9)]) [0, 1, 2, 3, 4, 5, 6, 7, 8, 9] rfl ?_
      exact hkx168 _ _ _ hF
    · have hF := if_f h37 hF
      refine r_iload C 9 dX11_mend_90 rfl ?_
      refine r_iconst (v := (4 : Int32)) C dX11_mend_92 rfl ?_
      refine r_icmp_gt C 168 dX11_mend_93 (by decide)  (fun h36 => ?_) (fun h36 => ?_)
      · have hF := if_t h36 hF
        refine r_drop (ls2 := [(0, vR (40, 0, 0)), (1, vI c1), (2, vI c2), (3, vI c3), (4, vI c4), (5, vI c5), (6, vI v6), (7, vI v7), (8, vI c8), (9, vI c9)]) [0, 1, 2, 3, 4, 5, 6, 7, 8, 9] rfl ?_
        exact hkx168 _ _ _ hF
      · have hF := if_f h36 hF
        refine r_aload_n C 0 0 dX11_mend_96 rfl rfl ?_
        refine r_getR (kf := 0) (d2 := (41, 0, 0)) C dX11_mend_97 rfl rfl f_X11 (by decide) t_5_56 rfl rfl ?_
        refine r_iload C 8 dX11_mend_100 rfl ?_
        refine r_iload C 10 dX11_mend_102 rfl ?_
        obtain ⟨h19, hF⟩ := ck_e hF
        obtain ⟨σ20, eσ20, hF⟩ := nam_e hF
        refine r_iastore C (c8.toNatClampNeg) dX11_mend_104 rfl h19 rfl eσ20 ?_
        refine r_iload C 10 dX11_mend_105 rfl ?_
        refine r_iload C 9 dX11_mend_107 rfl ?_
        obtain ⟨k22, ek22, hF⟩ := nam_e hF
        have hk22 : ∀ (y21 : Int32) (σ23 : St), k22 y21 σ23 = some (r, σ') → Rt G p l e (lvl 5) s m args below meth c 0 0 (MQ below (va_Qi (fun a b => a = r ∧ b = σ') (Wd G) (AG G)) args s 0 0 (AG G)) 12 126 [(0, vR (40, 0, 0)), (1, vI c1), (2, vI c2), (3, vI c3), (4, vI c4), (5, vI c5), (6, vI v6), (7, vI v7), (8, vI c8), (9, vI c9), (10, vI v10)] [vI y21] σ23 := by
          intro y21 σ23 hF
          subst ek22
          refine r_istore (ls2 := [(11, vI y21), (0, vR (40, 0, 0)), (1, vI c1), (2, vI c2), (3, vI c3), (4, vI c4), (5, vI c5), (6, vI v6), (7, vI v7), (8, vI c8), (9, vI c9), (10, vI v10)]) C dX11_mend_126 (by decide) rfl ?_
          refine r_iload C 0 dX11_mend_128 rfl ?_
          refine r_bipush (v := (-4 : Int32)) C dX11_mend_130 rfl ?_
          obtain ⟨k26, ek26, hF⟩ := nam_e hF
          have hk26 : ∀ (y24 : Int32) (y25 : Int32) (σ27 : St), k26 y24 y25 σ27 = some (r, σ') → Rt G p l e (lvl 5) s m args below meth c 0 0 (MQ below (va_Qi (fun a b => a = r ∧ b = σ') (Wd G) (AG G)) args s 0 0 (AG G)) 12 162 [(0, vR (40, 0, 0)), (1, vI c1), (2, vI c2), (3, vI c3), (4, vI c4), (5, vI c5), (6, vI y24), (7, vI y25), (8, vI c8), (9, vI c9), (10, vI v10)] [] σ27 := by
            intro y24 y25 σ27 hF
            subst ek26
            obtain ⟨x28, ex28, hF⟩ := nam_e hF
            refine r_iinc (v := x28) (ls2 := [(10, vI x28), (0, vR (40, 0, 0)), (1, vI c1), (2, vI c2), (3, vI c3), (4, vI c4), (5, vI c5), (6, vI y24), (7, vI y25), (8, vI c8), (9, vI c9)]) C 10 dX11_mend_162 rfl ex28.symm (by decide) rfl ?_
            refine r_goto C 84 dX11_mend_165 (by decide) ?_
            refine r_drop (ls2 := [(0, vR (40, 0, 0)), (1, vI c1), (2, vI c2), (3, vI c3), (4, vI c4), (5, vI c5), (6, vI y24), (7, vI y25), (8, vI c8), (9, vI c9), (10, vI x28)]) [1, 2, 3, 4, 5, 6, 7, 8, 9, 10, 0] rfl ?_
            exact ih _ _ _ _ hF
          refine r_icmp_eq C 162 dX11_mend_132 (by decide)  (fun h31 => ?_) (fun h31 => ?_)
          · have hF := if_t h31 hF
            refine r_drop (ls2 := [(0, vR (40, 0, 0)), (1, vI c1), (2, vI c2), (3, vI c3), (4, vI c4), (5, vI c5), (6, vI v6), (7, vI v7), (8, vI c8), (9, vI c9), (10, vI v10)]) [1, 2, 3, 4, 5, 6, 7, 8, 9, 10, 11] rfl ?_
            exact hk26 _ _ _ hF
          · have hF := if_f h31 hF
            refine r_iload C 7 dX11_mend_135 rfl ?_
            refine r_bipush (v := (-4 : Int32)) C dX11_mend_137 rfl ?_
            refine r_icmp_eq C 149 dX11_mend_139 (by decide)  (fun h30 => ?_) (fun h30 => ?_)
            · have hF := if_t h30 hF
              refine r_iload C 0 dX11_mend_149 rfl ?_
              refine r_istore (ls2 := [(6, vI y21), (11, vI y21), (0, vR (40, 0, 0)), (1, vI c1), (2, vI c2), (3, vI c3), (4, vI c4), (5, vI c5), (7, vI v7), (8, vI c8), (9, vI c9), (10, vI v10)]) C dX11_mend_151 (by decide) rfl ?_
              refine r_iconst (v := (5 : Int32)) C dX11_mend_153 rfl ?_
              refine r_iload C 9 dX11_mend_154 rfl ?_
              refine r_imul C dX11_mend_156 ?_
              refine r_iload C 11 dX11_mend_157 rfl ?_
              refine r_iadd C dX11_mend_159 ?_
              refine r_istore (ls2 := [(7, vI (((5 : Int32) * c8) + v10)), (6, vI y21), (11, vI y21), (0, vR (40, 0, 0)), (1, vI c1), (2, vI c2), (3, vI c3), (4, vI c4), (5, vI c5), (8, vI c8), (9, vI c9), (10, vI v10)]) C dX11_mend_160 (by decide) rfl ?_
              refine r_drop (ls2 := [(0, vR (40, 0, 0)), (1, vI c1), (2, vI c2), (3, vI c3), (4, vI c4), (5, vI c5), (6, vI y21), (7, vI (((5 : Int32) * c8) + v10)), (8, vI c8), (9, vI c9), (10, vI v10)]) [3, 4, 5, 6, 7, 8, 1, 0, 9, 10, 11] rfl ?_
              exact hk26 _ _ _ hF
            · have hF := if_f h30 hF
              refine r_iload C 0 dX11_mend_142 rfl ?_
              refine r_iload C 7 dX11_mend_144 rfl ?_
              refine r_icmp_ge C 162 dX11_mend_146 (by decide)  (fun h29 => ?_) (fun h29 => ?_)
              · have hF := if_t h29 hF
                refine r_drop (ls2 := [(0, vR (40, 0, 0)), (1, vI c1), (2, vI c2), (3, vI c3), (4, vI c4), (5, vI c5), (6, vI v6), (7, vI v7), (8, vI c8), (9, vI c9), (10, vI v10)]) [1, 2, 3, 4, 5, 6, 7, 8, 9, 10, 11] rfl ?_
                exact hk26 _ _ _ hF
              · have hF := if_f h29 hF
                refine r_iload C 0 dX11_mend_149 rfl ?_
                refine r_istore (ls2 := [(6, vI y21), (11, vI y21), (0, vR (40, 0, 0)), (1, vI c1), (2, vI c2), (3, vI c3), (4, vI c4), (5, vI c5), (7, vI v7), (8, vI c8), (9, vI c9), (10, vI v10)]) C dX11_mend_151 (by decide) rfl ?_
                refine r_iconst (v := (5 : Int32)) C dX11_mend_153 rfl ?_
                refine r_iload C 9 dX11_mend_154 rfl ?_
                refine r_imul C dX11_mend_156 ?_
                refine r_iload C 11 dX11_mend_157 rfl ?_
                refine r_iadd C dX11_mend_159 ?_
                refine r_istore (ls2 := [(7, vI (((5 : Int32) * c8) + v10)), (6, vI y21), (11, vI y21), (0, vR (40, 0, 0)), (1, vI c1), (2, vI c2), (3, vI c3), (4, vI c4), (5, vI c5), (8, vI c8), (9, vI c9), (10, vI v10)]) C dX11_mend_160 (by decide) rfl ?_
                refine r_drop (ls2 := [(0, vR (40, 0, 0)), (1, vI c1), (2, vI c2), (3, vI c3), (4, vI c4), (5, vI c5), (6, vI y21), (7, vI (((5 : Int32) * c8) + v10)), (8, vI c8), (9, vI c9), (10, vI v10)]) [3, 4, 5, 6, 7, 8, 1, 0, 9, 10, 11] rfl ?_
                exact hk26 _ _ _ hF
        refine r_icmp_ne C 117 dX11_mend_109 (by decide)  (fun h35 => ?_) (fun h35 => ?_)
        · have hF := if_f h35 hF
          refine r_aload_n C 0 0 dX11_mend_117 rfl rfl ?_
          refine r_iload_n C 1 1 dX11_mend_118 rfl rfl ?_
          refine r_iload_n C 2 2 dX11_mend_119 rfl rfl ?_
          refine r_iload_n C 3 3 dX11_mend_120 rfl rfl ?_
          refine r_iload C 4 dX11_mend_121 rfl ?_
          obtain ⟨r33, σ32, e34, hF⟩ := bd_e hF
          refine r_callV_i (as := [vI c1, vI c2, vI c3, vI c4]) (st := []) C dX11_mend_123 (s_X11_reachOf G l e34) rfl rfl rfl t_6_131 t_6_133 t_s_51 t_1_14 t_6_134 m_X11_reachOf ⟨Nat.le_of_ble_eq_true rfl, Nat.le_of_ble_eq_true rfl⟩ ⟨rfl, rfl⟩ ⟨Nat.zero_le _, Nat.zero_le _⟩ rfl (Nat.le_of_ble_eq_true rfl) ?_
          exact hk22 _ _ hF
        · have hF := if_t h35 hF
          refine r_bipush (v := (-4 : Int32)) C dX11_mend_112 rfl ?_
          refine r_goto C 126 dX11_mend_114 (by decide) ?_
          exact hk22 _ _ hF
set_option maxRecDepth 20000 in
set_option maxHeartbeats 4000000 in
theorem l_X11_mend_65 {G : Gx} {p : Program} {l : Launch} {e : Env} {s : State} {m : MethodId} {args : Array Value} {below : List Frame} {meth : Method} {c : Code} (C : Cx G p s m args meth c (some .int) 12 RX11 cX11_mend) (c1 : Int32) (c2 : Int32) (c3 : Int32) (c4 : Int32) (c5 : Int32) {σ' : St} {r : Int32} (kx183 : Int32 → Int32 → St → Option (Int32 × St)) (hkx183 : ∀ (w6 : Int32) (w7 : Int32) (τ : St), kx183 w6 w7 τ = some (r, σ') → Rt G p l e (lvl 5) s m args below meth c 0 0 (MQ below (va_Qi (fun a b => a = r ∧ b = σ') (Wd G) (AG G)) args s 0 0 (AG G)) 12 183 [(5, vI c5), (6, vI w6), (7, vI w7)] [] τ) : ∀ (n : Nat) (v6 : Int32) (v7 : Int32) (v8 : Int32) (τ : St), L_X11_mend_65 c1 c2 c3 c4 c5 n v6 v7 v8 τ kx183 = some (r, σ') → Rt G p l e (lvl 5) s m args below meth c 0 0 (MQ below (va_Qi (fun a b => a = r ∧ b = σ') (Wd G) (AG G)) args s 0 0 (AG G)) 12 65 [(0, vR (40, 0, 0)), (1, vI c1), (2, vI c2), (3, vI c3), (4, vI c4), (5, vI c5), (6, vI v6), (7, vI v7), (8, vI v8)] [] τ := by
  intro n
  induction n with
  | zero => intro v6 v7 v8 τ hF; cases hF
  | succ n ih =>
    intro v6 v7 v8 τ hF
    unfold L_X11_mend_65 at hF
    refine r_iload C 8 dX11_mend_65 rfl ?_
    refine r_bipush (v := (96 : Int32)) C dX11_mend_67 rfl ?_
    refine r_icmp_ge C 183 dX11_mend_69 (by decide)  (fun h44 => ?_) (fun h44 => ?_)
    · have hF := if_t h44 hF
      refine r_drop (ls2 := [(5, vI c5), (6, vI v6), (7, vI v7)]) [5, 6, 7] rfl ?_
      exact hkx183 _ _ _ hF
    · have hF := if_f h44 hF
      refine r_aload_n C 0 0 dX11_mend_72 rfl rfl ?_
      refine r_getR (kf := 0) (d2 := (41, 0, 0)) C dX11_mend_73 rfl rfl f_X11 (by decide) t_5_56 rfl rfl ?_
      refine r_iload C 8 dX11_mend_76 rfl ?_
      obtain ⟨h17, hF⟩ := ck_e hF
      refine r_iaload C (v8.toNatClampNeg) dX11_mend_78 rfl h17 rfl ?_
      obtain ⟨x18, ex18, hF⟩ := nam_e hF
      refine r_topI ex18 ?_
      refine r_istore (ls2 := [(9, vI x18), (0, vR (40, 0, 0)), (1, vI c1), (2, vI c2), (3, vI c3), (4, vI c4), (5, vI c5), (6, vI v6), (7, vI v7), (8, vI v8)]) C dX11_mend_79 (by decide) rfl ?_
      refine r_iconst (v := (0 : Int32)) C dX11_mend_81 rfl ?_
      refine r_istore (ls2 := [(10, vI (0 : Int32)), (9, vI x18), (0, vR (40, 0, 0)), (1, vI c1), (2, vI c2), (3, vI c3), (4, vI c4), (5, vI c5), (6, vI v6), (7, vI v7), (8, vI v8)]) C dX11_mend_82 (by decide) rfl ?_
      refine r_drop (ls2 := [(0, vR (40, 0, 0)), (1, vI c1), (2, vI c2), (3, vI c3), (4, vI c4), (5, vI c5), (6, vI v6), (7, vI v7), (8, vI v8), (9, vI x18), (10, vI (0 : Int32))]) [2, 3, 4, 5, 6, 7, 8, 9, 10, 1, 0] rfl ?_
      refine l_X11_mend_84 C c1 c2 c3 c4 c5 v8 x18 _ ?_ _ _ _ _ _ hF
      · intro y39 y40 σ38 hF
        refine r_aload_n C 0 0 dX11_mend_168 rfl rfl ?_
        refine r_getR (kf := 0) (d2 := (41, 0, 0)) C dX11_mend_169 rfl rfl f_X11 (by decide) t_5_56 rfl rfl ?_
        refine r_iload C 8 dX11_mend_172 rfl ?_
        refine r_iload C 9 dX11_mend_174 rfl ?_
        obtain ⟨h41, hF⟩ := ck_e hF
        obtain ⟨σ42, eσ42, hF⟩ := nam_e hF
        refine r_iastore C (v8.toNatClampNeg) dX11_mend_176 rfl h41 rfl eσ42 ?_
        obtain ⟨x43, ex43, hF⟩ := nam_e hF
        refine r_iinc (v := x43) (ls2 := [(8, vI x43), (0, vR (40, 0, 0)), (1, vI c1), (2, vI c2), (3, vI c3), (4, vI c4), (5, vI c5), (6, vI y39), (7, vI y40), (9, vI x18)]) C 8 dX11_mend_177 rfl ex43.symm (by decide) rfl ?_
        refine r_goto C 65 dX11_mend_180 (by decide) ?_
        refine r_drop (ls2 := [(0, vR (40, 0, 0)), (1, vI c1), (2, vI c2), (3, vI c3), (4, vI c4), (5, vI c5), (6, vI y39), (7, vI y40), (8, vI x43)]) [1, 2, 3, 4, 5, 6, 7, 8, 0] rfl ?_
        exact ih _ _ _ _ hF
set_option maxRecDepth 20000 in
set_option maxHeartbeats 4000000 in
theorem s_X11_mend (G : Gx) (l : Launch) {a1 : Int32} {a2 : Int32} {a3 : Int32} {a4 : Int32} {a5 : Int32} {σ σ' : St} {r : Int32} (hF : F_X11_mend a1 a2 a3 a4 a5 σ = some (r, σ')) : Sp G l yX11_mend cX11_mend 12 (some .int) (lvl 5) [vR (40, 0, 0), vI a1, vI a2, vI a3, vI a4, vI a5] σ (va_Qi (fun a b => a = r ∧ b = σ') (Wd G) (AG G)) := by
  refine Sp_of (own := RX11) (by decide) rfl (Nat.le_of_ble_eq_true rfl) ?_
  intro p e s m args below meth c C
  show Rt G p l e (lvl 5) s m args below meth c 0 0 (MQ below (va_Qi (fun a b => a = r ∧ b = σ') (Wd G) (AG G)) args s 0 0 (AG G)) 12 0 [(0, vR (40, 0, 0)), (1, vI a1), (2, vI a2), (3, vI a3), (4, vI a4), (5, vI a5)] [] σ
  unfold F_X11_mend at hF
  refine r_iload_n C 1 1 dX11_mend_0 rfl rfl ?_
  refine r_iload_n C 2 2 dX11_mend_1 rfl rfl ?_
  refine r_iload_n C 3 3 dX11_mend_2 rfl rfl ?_
  obtain ⟨r2, σ1, e3, hF⟩ := bd_e hF
  refine r_callS_i (as := [vI a1, vI a2, vI a3]) (st := []) C dX11_mend_3 (s_X11_isDrop G l e3) t_6_12 t_6_13 t_1_14 t_6_14 m_X11_isDrop ⟨Nat.le_of_ble_eq_true rfl, Nat.le_of_ble_eq_true rfl⟩ ⟨rfl, rfl⟩ ⟨Nat.zero_le _, Nat.zero_le _⟩ rfl (Nat.le_of_ble_eq_true rfl) ?_
  refine r_if_eq C 30 dX11_mend_6 (by decide)  (fun h56 => ?_) (fun h56 => ?_)
  · have hF := if_t h56 hF
    refine r_iconst (v := (-1 : Int32)) C dX11_mend_30 rfl ?_
    exact r_ireturn C dX11_mend_31 (rt_e hF)
  · have hF := if_f h56 hF
    refine r_iload C 4 dX11_mend_9 rfl ?_
    obtain ⟨r5, σ4, e6, hF⟩ := bd_e hF
    refine r_callS_i (as := [vI a4]) (st := []) C dX11_mend_11 (s_X11_isCell G l e6) t_5_223 t_5_224 t_1_14 t_5_225 m_X11_isCell ⟨Nat.le_of_ble_eq_true rfl, Nat.le_of_ble_eq_true rfl⟩ ⟨rfl, rfl⟩ ⟨Nat.zero_le _, Nat.zero_le _⟩ rfl (Nat.le_of_ble_eq_true rfl) ?_
    refine r_if_eq C 30 dX11_mend_14 (by decide)  (fun h55 => ?_) (fun h55 => ?_)
    · have hF := if_t h55 hF
      refine r_iconst (v := (-1 : Int32)) C dX11_mend_30 rfl ?_
      exact r_ireturn C dX11_mend_31 (rt_e hF)
    · have hF := if_f h55 hF
      refine r_iload C 5 dX11_mend_17 rfl ?_
      refine r_i2l C dX11_mend_19 ?_
      refine r_lconst (v := (0 : Int64)) C dX11_mend_20 rfl ?_
      refine r_ldc2_w (v := (2 : Int64)) C dX11_mend_21 t_6_139 ?_
      obtain ⟨r8, σ7, e9, hF⟩ := bd_e hF
      refine r_callS_i (as := [vL (a5.toInt64), vL (0 : Int64), vL (2 : Int64)]) (st := []) C dX11_mend_24 (s_X11_in G l e9) t_5_153 t_5_154 t_1_14 t_5_155 m_X11_in ⟨Nat.le_of_ble_eq_true rfl, Nat.le_of_ble_eq_true rfl⟩ ⟨rfl, rfl⟩ ⟨Nat.zero_le _, Nat.zero_le _⟩ rfl (Nat.le_of_ble_eq_true rfl) ?_
      refine r_if_ne C 32 dX11_mend_27 (by decide)  (fun h54 => ?_) (fun h54 => ?_)
      · have hF := if_f h54 hF
        refine r_aload_n C 0 0 dX11_mend_32 rfl rfl ?_
        refine r_getR (kf := 0) (d2 := (41, 0, 0)) C dX11_mend_33 rfl rfl f_X11 (by decide) t_5_56 rfl rfl ?_
        refine r_iload_n C 1 1 dX11_mend_36 rfl rfl ?_
        obtain ⟨h10, hF⟩ := ck_e hF
        refine r_iaload C (a1.toNatClampNeg) dX11_mend_37 rfl h10 rfl ?_
        obtain ⟨r12, σ11, e13, hF⟩ := bd_e hF
        refine r_callS_i (as := [vI (σ7.1 (41, 0, 0) (a1.toNatClampNeg))]) (st := []) C dX11_mend_38 (s_X11_isShut G l e13) t_5_232 t_5_233 t_1_14 t_5_234 m_X11_isShut ⟨Nat.le_of_ble_eq_true rfl, Nat.le_of_ble_eq_true rfl⟩ ⟨rfl, rfl⟩ ⟨Nat.zero_le _, Nat.zero_le _⟩ rfl (Nat.le_of_ble_eq_true rfl) ?_
        refine r_if_eq C 47 dX11_mend_41 (by decide)  (fun h53 => ?_) (fun h53 => ?_)
        · have hF := if_t h53 hF
          refine r_aload_n C 0 0 dX11_mend_47 rfl rfl ?_
          refine r_iload_n C 1 1 dX11_mend_48 rfl rfl ?_
          refine r_iload_n C 2 2 dX11_mend_49 rfl rfl ?_
          refine r_iload_n C 3 3 dX11_mend_50 rfl rfl ?_
          refine r_iload C 4 dX11_mend_51 rfl ?_
          obtain ⟨r15, σ14, e16, hF⟩ := bd_e hF
          refine r_callV_i (as := [vI a1, vI a2, vI a3, vI a4]) (st := []) C dX11_mend_53 (s_X11_reachOf G l e16) rfl rfl rfl t_6_131 t_6_133 t_s_51 t_1_14 t_6_134 m_X11_reachOf ⟨Nat.le_of_ble_eq_true rfl, Nat.le_of_ble_eq_true rfl⟩ ⟨rfl, rfl⟩ ⟨Nat.zero_le _, Nat.zero_le _⟩ rfl (Nat.le_of_ble_eq_true rfl) ?_
          refine r_istore (ls2 := [(6, vI r15), (0, vR (40, 0, 0)), (1, vI a1), (2, vI a2), (3, vI a3), (4, vI a4), (5, vI a5)]) C dX11_mend_56 (by decide) rfl ?_
          refine r_bipush (v := (-4 : Int32)) C dX11_mend_58 rfl ?_
          refine r_istore (ls2 := [(7, vI (-4 : Int32)), (6, vI r15), (0, vR (40, 0, 0)), (1, vI a1), (2, vI a2), (3, vI a3), (4, vI a4), (5, vI a5)]) C dX11_mend_60 (by decide) rfl ?_
          refine r_iconst (v := (0 : Int32)) C dX11_mend_62 rfl ?_
          refine r_istore (ls2 := [(8, vI (0 : Int32)), (7, vI (-4 : Int32)), (6, vI r15), (0, vR (40, 0, 0)), (1, vI a1), (2, vI a2), (3, vI a3), (4, vI a4), (5, vI a5)]) C dX11_mend_63 (by decide) rfl ?_
          refine r_drop (ls2 := [(0, vR (40, 0, 0)), (1, vI a1), (2, vI a2), (3, vI a3), (4, vI a4), (5, vI a5), (6, vI r15), (7, vI (-4 : Int32)), (8, vI (0 : Int32))]) [3, 4, 5, 6, 7, 8, 2, 1, 0] rfl ?_
          refine l_X11_mend_65 C a1 a2 a3 a4 a5 _ ?_ _ _ _ _ _ hF
          · intro y46 y47 σ45 hF
            refine r_iload C 2 dX11_mend_183 rfl ?_
            refine r_bipush (v := (-4 : Int32)) C dX11_mend_185 rfl ?_
            refine r_icmp_ne C 195 dX11_mend_187 (by decide)  (fun h52 => ?_) (fun h52 => ?_)
            · have hF := if_f h52 hF
              refine r_iload C 0 dX11_mend_195 rfl ?_
              refine r_if_ne C 205 dX11_mend_197 (by decide)  (fun h51 => ?_) (fun h51 => ?_)
              · have hF := if_f h51 hF
                refine r_iload C 0 dX11_mend_205 rfl ?_
                refine r_iconst (v := (1 : Int32)) C dX11_mend_207 rfl ?_
                refine r_icmp_ne C 218 dX11_mend_208 (by decide)  (fun h50 => ?_) (fun h50 => ?_)
                · have hF := if_f h50 hF
                  refine r_iload C 2 dX11_mend_218 rfl ?_
                  refine r_iconst (v := (5 : Int32)) C dX11_mend_220 rfl ?_
                  obtain ⟨h48, hF⟩ := ck_e hF
                  refine r_irem C dX11_mend_221 (nz h48) ?_
                  exact r_ireturn C dX11_mend_222 (rt_e hF)
                · have hF := if_t h50 hF
                  refine r_iload C 2 dX11_mend_211 rfl ?_
                  refine r_iconst (v := (5 : Int32)) C dX11_mend_213 rfl ?_
                  obtain ⟨h49, hF⟩ := ck_e hF
                  refine r_idiv C dX11_mend_214 (nz h49) ?_
                  refine r_goto C 222 dX11_mend_215 (by decide) ?_
                  exact r_ireturn C dX11_mend_222 (rt_e hF)
              · have hF := if_t h51 hF
                refine r_iload C 1 dX11_mend_200 rfl ?_
                refine r_goto C 222 dX11_mend_202 (by decide) ?_
                exact r_ireturn C dX11_mend_222 (rt_e hF)
            · have hF := if_t h52 hF
              refine r_bipush (v := (-4 : Int32)) C dX11_mend_190 rfl ?_
              refine r_goto C 222 dX11_mend_192 (by decide) ?_
              exact r_ireturn C dX11_mend_222 (rt_e hF)
        · have hF := if_f h53 hF
          refine r_bipush (v := (-2 : Int32)) C dX11_mend_44 rfl ?_
          exact r_ireturn C dX11_mend_46 (rt_e hF)
      · have hF := if_t h54 hF
        refine r_iconst (v := (-1 : Int32)) C dX11_mend_30 rfl ?_
        exact r_ireturn C dX11_mend_31 (rt_e hF)
def L_X11_lifeOf_9 (c2 : Int32) (c3 : Int32) : Nat → Int32 → Int32 → Int32 → St → Option (Int32 × St)
  | 0, _, _, _, _ => none
  | n + 1, v4, v5, v6, τ =>
  (if v6 = 0 then some (v5, τ) else nam (fun (y1 : Int32) (σ3 : St) => nam (v4 - y1) fun x4 => nam (fun (y5 : Int32) (σ7 : St) => nam (v5 + (1 : Int32)) fun x8 => L_X11_lifeOf_9 c2 c3 n x4 x8 y5 σ7) fun k6 => (if x4 ≤ 0 then k6 (0 : Int32) σ3 else (if c3 = 0 then k6 (1 : Int32) σ3 else ck (inb (4 : Int32) 9) ((if x4 ≤ (σ3.1 (43, 0, 0) 4) then k6 (0 : Int32) σ3 else k6 (1 : Int32) σ3))))) fun k2 => (if c3 = 0 then bd (F_X11_hisses v4 c2 τ) fun r14 σ13 => k2 r14 σ13 else bd (F_X11_thins v4 v5 τ) fun r17 σ16 => k2 r17 σ16))
def F_X11_lifeOf (a1 : Int32) (a2 : Int32) (a3 : Int32) (σ : St) : Option (Int32 × St) :=
  L_X11_lifeOf_9 a2 a3 FU a1 (0 : Int32) (1 : Int32) σ 
set_option maxRecDepth 20000 in
set_option maxHeartbeats 4000000 in
theorem l_X11_lifeOf_9 {G : Gx} {p : Program} {l : Launch} {e : Env} {s : State} {m : MethodId} {args : Array Value} {below : List Frame} {meth : Method} {c : Code} (C : Cx G p s m args meth c (some .int) 7 RX11 cX11_lifeOf) (c2 : Int32) (c3 : Int32) {σ' : St} {r : Int32} : ∀ (n : Nat) (v4 : Int32) (v5 : Int32) (v6 : Int32) (τ : St), L_X11_lifeOf_9 c2 c3 n v4 v5 v6 τ = some (r, σ') → Rt G p l e (lvl 2) s m args below meth c 0 0 (MQ below (va_Qi (fun a b => a = r ∧ b = σ') (Wd G) (AG G)) args s 0 0 (AG G)) 7 9 [(0, vR (40, 0, 0)), (2, vI c2), (3, vI c3), (4, vI v4), (5, vI v5), (6, vI v6)] [] τ := by
  intro n
  induction n with
  | zero => intro v4 v5 v6 τ hF; cases hF
  | succ n ih =>
    intro v4 v5 v6 τ hF
    unfold L_X11_lifeOf_9 at hF
    refine r_iload C 5 dX11_lifeOf_9 rfl ?_
    refine r_if_eq C 74 dX11_lifeOf_11 (by decide)  (fun h20 => ?_) (fun h20 => ?_)
    · have hF := if_t h20 hF
      refine r_iload C 4 dX11_lifeOf_74 rfl ?_
      exact r_ireturn C dX11_lifeOf_76 (rt_e hF)
    · have hF := if_f h20 hF
      refine r_iload C 3 dX11_lifeOf_14 rfl ?_
      refine r_iload_n C 2 3 dX11_lifeOf_16 rfl rfl ?_
      obtain ⟨k2, ek2, hF⟩ := nam_e hF
      have hk2 : ∀ (y1 : Int32) (σ3 : St), k2 y1 σ3 = some (r, σ') → Rt G p l e (lvl 2) s m args below meth c 0 0 (MQ below (va_Qi (fun a b => a = r ∧ b = σ') (Wd G) (AG G)) args s 0 0 (AG G)) 7 38 [(0, vR (40, 0, 0)), (2, vI c2), (3, vI c3), (5, vI v5)] [vI y1, vI v4] σ3 := by
        intro y1 σ3 hF
        subst ek2
        refine r_isub C dX11_lifeOf_38 ?_
        obtain ⟨x4, ex4, hF⟩ := nam_e hF
        refine r_topI ex4 ?_
        refine r_istore (ls2 := [(4, vI x4), (0, vR (40, 0, 0)), (2, vI c2), (3, vI c3), (5, vI v5)]) C dX11_lifeOf_39 (by decide) rfl ?_
        refine r_iload C 0 dX11_lifeOf_41 rfl ?_
        obtain ⟨k6, ek6, hF⟩ := nam_e hF
        have hk6 : ∀ (y5 : Int32) (σ7 : St), k6 y5 σ7 = some (r, σ') → Rt G p l e (lvl 2) s m args below meth c 0 0 (MQ below (va_Qi (fun a b => a = r ∧ b = σ') (Wd G) (AG G)) args s 0 0 (AG G)) 7 66 [(0, vR (40, 0, 0)), (2, vI c2), (3, vI c3), (4, vI x4), (5, vI v5)] [vI y5] σ7 := by
          intro y5 σ7 hF
          subst ek6
          refine r_istore (ls2 := [(6, vI y5), (0, vR (40, 0, 0)), (2, vI c2), (3, vI c3), (4, vI x4), (5, vI v5)]) C dX11_lifeOf_66 (by decide) rfl ?_
          obtain ⟨x8, ex8, hF⟩ := nam_e hF
          refine r_iinc (v := x8) (ls2 := [(5, vI x8), (6, vI y5), (0, vR (40, 0, 0)), (2, vI c2), (3, vI c3), (4, vI x4)]) C 5 dX11_lifeOf_68 rfl ex8.symm (by decide) rfl ?_
          refine r_goto C 9 dX11_lifeOf_71 (by decide) ?_
          refine r_drop (ls2 := [(0, vR (40, 0, 0)), (2, vI c2), (3, vI c3), (4, vI x4), (5, vI x8), (6, vI y5)]) [2, 3, 4, 5, 0, 1] rfl ?_
          exact ih _ _ _ _ hF
        refine r_if_le C 65 dX11_lifeOf_43 (by decide)  (fun h12 => ?_) (fun h12 => ?_)
        · have hF := if_t h12 hF
          refine r_iconst (v := (0 : Int32)) C dX11_lifeOf_65 rfl ?_
          refine r_drop (ls2 := [(0, vR (40, 0, 0)), (2, vI c2), (3, vI c3), (4, vI x4), (5, vI v5)]) [1, 2, 3, 0, 4] rfl ?_
          exact hk6 _ _ hF
        · have hF := if_f h12 hF
          refine r_iload_n C 3 3 dX11_lifeOf_46 rfl rfl ?_
          refine r_if_eq C 61 dX11_lifeOf_47 (by decide)  (fun h11 => ?_) (fun h11 => ?_)
          · have hF := if_t h11 hF
            refine r_iconst (v := (1 : Int32)) C dX11_lifeOf_61 rfl ?_
            refine r_goto C 66 dX11_lifeOf_62 (by decide) ?_
            refine r_drop (ls2 := [(0, vR (40, 0, 0)), (2, vI c2), (3, vI c3), (4, vI x4), (5, vI v5)]) [1, 2, 3, 0, 4] rfl ?_
            exact hk6 _ _ hF
          · have hF := if_f h11 hF
            refine r_iload C 0 dX11_lifeOf_50 rfl ?_
            refine r_aload_n C 1 0 dX11_lifeOf_52 rfl rfl ?_
            refine r_getR (kf := 2) (d2 := (43, 0, 0)) C dX11_lifeOf_53 rfl rfl f_X11 (by decide) t_5_58 rfl rfl ?_
            refine r_iconst (v := (4 : Int32)) C dX11_lifeOf_56 rfl ?_
            obtain ⟨h9, hF⟩ := ck_e hF
            refine r_iaload C 4 dX11_lifeOf_57 rfl h9 rfl ?_
            refine r_icmp_le C 65 dX11_lifeOf_58 (by decide)  (fun h10 => ?_) (fun h10 => ?_)
            · have hF := if_t h10 hF
              refine r_iconst (v := (0 : Int32)) C dX11_lifeOf_65 rfl ?_
              refine r_drop (ls2 := [(0, vR (40, 0, 0)), (2, vI c2), (3, vI c3), (4, vI x4), (5, vI v5)]) [1, 2, 3, 0, 4] rfl ?_
              exact hk6 _ _ hF
            · have hF := if_f h10 hF
              refine r_iconst (v := (1 : Int32)) C dX11_lifeOf_61 rfl ?_
              refine r_goto C 66 dX11_lifeOf_62 (by decide) ?_
              refine r_drop (ls2 := [(0, vR (40, 0, 0)), (2, vI c2), (3, vI c3), (4, vI x4), (5, vI v5)]) [1, 2, 3, 0, 4] rfl ?_
              exact hk6 _ _ hF
      refine r_if_eq C 31 dX11_lifeOf_17 (by decide)  (fun h19 => ?_) (fun h19 => ?_)
      · have hF := if_t h19 hF
        refine r_aload_n C 0 0 dX11_lifeOf_31 rfl rfl ?_
        refine r_iload C 3 dX11_lifeOf_32 rfl ?_
        refine r_iload_n C 1 2 dX11_lifeOf_34 rfl rfl ?_
        obtain ⟨r14, σ13, e15, hF⟩ := bd_e hF
        refine r_callV_i (as := [vI v4, vI c2]) (st := [vI v4]) C dX11_lifeOf_35 (s_X11_hisses G l e15) rfl rfl rfl t_6_30 t_6_32 t_s_37 t_1_14 t_6_33 m_X11_hisses ⟨Nat.le_of_ble_eq_true rfl, Nat.le_of_ble_eq_true rfl⟩ ⟨rfl, rfl⟩ ⟨Nat.zero_le _, Nat.zero_le _⟩ rfl (Nat.le_of_ble_eq_true rfl) ?_
        refine r_drop (ls2 := [(0, vR (40, 0, 0)), (2, vI c2), (3, vI c3), (5, vI v5)]) [0, 1, 2, 4] rfl ?_
        exact hk2 _ _ hF
      · have hF := if_f h19 hF
        refine r_aload_n C 0 0 dX11_lifeOf_20 rfl rfl ?_
        refine r_iload C 3 dX11_lifeOf_21 rfl ?_
        refine r_iload C 4 dX11_lifeOf_23 rfl ?_
        obtain ⟨r17, σ16, e18, hF⟩ := bd_e hF
        refine r_callV_i (as := [vI v4, vI v5]) (st := [vI v4]) C dX11_lifeOf_25 (s_X11_thins G l e18) rfl rfl rfl t_6_45 t_6_47 t_s_40 t_1_14 t_6_48 m_X11_thins ⟨Nat.le_of_ble_eq_true rfl, Nat.le_of_ble_eq_true rfl⟩ ⟨rfl, rfl⟩ ⟨Nat.zero_le _, Nat.zero_le _⟩ rfl (Nat.le_of_ble_eq_true rfl) ?_
        refine r_goto C 38 dX11_lifeOf_28 (by decide) ?_
        refine r_drop (ls2 := [(0, vR (40, 0, 0)), (2, vI c2), (3, vI c3), (5, vI v5)]) [0, 1, 2, 4] rfl ?_
        exact hk2 _ _ hF
set_option maxRecDepth 20000 in
set_option maxHeartbeats 4000000 in
theorem s_X11_lifeOf (G : Gx) (l : Launch) {a1 : Int32} {a2 : Int32} {a3 : Int32} {σ σ' : St} {r : Int32} (hF : F_X11_lifeOf a1 a2 a3 σ = some (r, σ')) : Sp G l yX11_lifeOf cX11_lifeOf 7 (some .int) (lvl 2) [vR (40, 0, 0), vI a1, vI a2, vI a3] σ (va_Qi (fun a b => a = r ∧ b = σ') (Wd G) (AG G)) := by
  refine Sp_of (own := RX11) (by decide) rfl (Nat.le_of_ble_eq_true rfl) ?_
  intro p e s m args below meth c C
  show Rt G p l e (lvl 2) s m args below meth c 0 0 (MQ below (va_Qi (fun a b => a = r ∧ b = σ') (Wd G) (AG G)) args s 0 0 (AG G)) 7 0 [(0, vR (40, 0, 0)), (1, vI a1), (2, vI a2), (3, vI a3)] [] σ
  unfold F_X11_lifeOf at hF
  refine r_iload_n C 1 1 dX11_lifeOf_0 rfl rfl ?_
  refine r_istore (ls2 := [(4, vI a1), (0, vR (40, 0, 0)), (1, vI a1), (2, vI a2), (3, vI a3)]) C dX11_lifeOf_1 (by decide) rfl ?_
  refine r_iconst (v := (0 : Int32)) C dX11_lifeOf_3 rfl ?_
  refine r_istore (ls2 := [(5, vI (0 : Int32)), (4, vI a1), (0, vR (40, 0, 0)), (1, vI a1), (2, vI a2), (3, vI a3)]) C dX11_lifeOf_4 (by decide) rfl ?_
  refine r_iconst (v := (1 : Int32)) C dX11_lifeOf_6 rfl ?_
  refine r_istore (ls2 := [(6, vI (1 : Int32)), (5, vI (0 : Int32)), (4, vI a1), (0, vR (40, 0, 0)), (1, vI a1), (2, vI a2), (3, vI a3)]) C dX11_lifeOf_7 (by decide) rfl ?_
  refine r_drop (ls2 := [(0, vR (40, 0, 0)), (2, vI a2), (3, vI a3), (4, vI a1), (5, vI (0 : Int32)), (6, vI (1 : Int32))]) [3, 5, 6, 2, 1, 0] rfl ?_
  refine l_X11_lifeOf_9 C a2 a3  _ _ _ _ _ hF
def F_X11_floatsAt (a1 : Int32) (a2 : Int32) (σ : St) : Option (Int32 × St) :=
  nam (fun (y1 : Int32) (σ3 : St) => (if a1 < y1 then some ((0 : Int32), σ3) else some ((1 : Int32), σ3))) fun k2 => (if a2 = 0 then ck (inb (1 : Int32) 9) (k2 (σ.1 (43, 0, 0) 1) σ) else ck (inb (0 : Int32) 9) (k2 (σ.1 (43, 0, 0) 0) σ))
set_option maxRecDepth 20000 in
set_option maxHeartbeats 4000000 in
theorem s_X11_floatsAt (G : Gx) (l : Launch) {a1 : Int32} {a2 : Int32} {σ σ' : St} {r : Int32} (hF : F_X11_floatsAt a1 a2 σ = some (r, σ')) : Sp G l yX11_floatsAt cX11_floatsAt 3 (some .boolean) (lvl 0) [vR (40, 0, 0), vI a1, vI a2] σ (va_Qi (fun a b => a = r ∧ b = σ') (Wd G) (AG G)) := by
  refine Sp_of (own := RX11) (by decide) rfl (Nat.le_of_ble_eq_true rfl) ?_
  intro p e s m args below meth c C
  show Rt G p l e (lvl 0) s m args below meth c 0 0 (MQ below (va_Qi (fun a b => a = r ∧ b = σ') (Wd G) (AG G)) args s 0 0 (AG G)) 3 0 [(0, vR (40, 0, 0)), (1, vI a1), (2, vI a2)] [] σ
  unfold F_X11_floatsAt at hF
  refine r_iload_n C 1 1 dX11_floatsAt_0 rfl rfl ?_
  refine r_iload_n C 2 2 dX11_floatsAt_1 rfl rfl ?_
  obtain ⟨k2, ek2, hF⟩ := nam_e hF
  have hk2 : ∀ (y1 : Int32) (σ3 : St), k2 y1 σ3 = some (r, σ') → Rt G p l e (lvl 0) s m args below meth c 0 0 (MQ below (va_Qi (fun a b => a = r ∧ b = σ') (Wd G) (AG G)) args s 0 0 (AG G)) 3 20 [] [vI y1, vI a1] σ3 := by
    intro y1 σ3 hF
    subst ek2
    refine r_icmp_lt C 27 dX11_floatsAt_20 (by decide)  (fun h4 => ?_) (fun h4 => ?_)
    · have hF := if_t h4 hF
      refine r_iconst (v := (0 : Int32)) C dX11_floatsAt_27 rfl ?_
      exact r_zreturn C dX11_floatsAt_28 (nar_z (Or.inl rfl)) (rt_e hF)
    · have hF := if_f h4 hF
      refine r_iconst (v := (1 : Int32)) C dX11_floatsAt_23 rfl ?_
      refine r_goto C 28 dX11_floatsAt_24 (by decide) ?_
      exact r_zreturn C dX11_floatsAt_28 (nar_z (Or.inr rfl)) (rt_e hF)
  refine r_if_eq C 14 dX11_floatsAt_2 (by decide)  (fun h7 => ?_) (fun h7 => ?_)
  · have hF := if_t h7 hF
    refine r_aload_n C 0 0 dX11_floatsAt_14 rfl rfl ?_
    refine r_getR (kf := 2) (d2 := (43, 0, 0)) C dX11_floatsAt_15 rfl rfl f_X11 (by decide) t_5_58 rfl rfl ?_
    refine r_iconst (v := (1 : Int32)) C dX11_floatsAt_18 rfl ?_
    obtain ⟨h5, hF⟩ := ck_e hF
    refine r_iaload C 1 dX11_floatsAt_19 rfl h5 rfl ?_
    refine r_drop (ls2 := []) [] rfl ?_
    exact hk2 _ _ hF
  · have hF := if_f h7 hF
    refine r_aload_n C 0 0 dX11_floatsAt_5 rfl rfl ?_
    refine r_getR (kf := 2) (d2 := (43, 0, 0)) C dX11_floatsAt_6 rfl rfl f_X11 (by decide) t_5_58 rfl rfl ?_
    refine r_iconst (v := (0 : Int32)) C dX11_floatsAt_9 rfl ?_
    obtain ⟨h6, hF⟩ := ck_e hF
    refine r_iaload C 0 dX11_floatsAt_10 rfl h6 rfl ?_
    refine r_goto C 20 dX11_floatsAt_11 (by decide) ?_
    refine r_drop (ls2 := []) [] rfl ?_
    exact hk2 _ _ hF
def F_X11_lifeAt (a1 : Int32) (a2 : Int32) (a3 : Int32) (σ : St) : Option (Int32 × St) :=
  bd (F_X11_floatsAt a2 a3 σ) fun r2 σ1 => bd (F_X11_lifeOf a1 a2 r2 σ1) fun r5 σ4 => some (r5, σ4)
set_option maxRecDepth 20000 in
set_option maxHeartbeats 4000000 in
theorem s_X11_lifeAt (G : Gx) (l : Launch) {a1 : Int32} {a2 : Int32} {a3 : Int32} {σ σ' : St} {r : Int32} (hF : F_X11_lifeAt a1 a2 a3 σ = some (r, σ')) : Sp G l yX11_lifeAt cX11_lifeAt 4 (some .int) (lvl 3) [vR (40, 0, 0), vI a1, vI a2, vI a3] σ (va_Qi (fun a b => a = r ∧ b = σ') (Wd G) (AG G)) := by
  refine Sp_of (own := RX11) (by decide) rfl (Nat.le_of_ble_eq_true rfl) ?_
  intro p e s m args below meth c C
  show Rt G p l e (lvl 3) s m args below meth c 0 0 (MQ below (va_Qi (fun a b => a = r ∧ b = σ') (Wd G) (AG G)) args s 0 0 (AG G)) 4 0 [(0, vR (40, 0, 0)), (1, vI a1), (2, vI a2), (3, vI a3)] [] σ
  unfold F_X11_lifeAt at hF
  refine r_aload_n C 0 0 dX11_lifeAt_0 rfl rfl ?_
  refine r_iload_n C 1 1 dX11_lifeAt_1 rfl rfl ?_
  refine r_iload_n C 2 2 dX11_lifeAt_2 rfl rfl ?_
  refine r_aload_n C 0 0 dX11_lifeAt_3 rfl rfl ?_
  refine r_iload_n C 2 2 dX11_lifeAt_4 rfl rfl ?_
  refine r_iload_n C 3 3 dX11_lifeAt_5 rfl rfl ?_
  obtain ⟨r2, σ1, e3, hF⟩ := bd_e hF
  refine r_callV_i (as := [vI a2, vI a3]) (st := [vI a2, vI a1, vR (40, 0, 0)]) C dX11_lifeAt_6 (s_X11_floatsAt G l e3) rfl rfl rfl t_6_168 t_6_170 t_s_54 t_1_14 t_6_171 m_X11_floatsAt ⟨Nat.le_of_ble_eq_true rfl, Nat.le_of_ble_eq_true rfl⟩ ⟨rfl, rfl⟩ ⟨Nat.zero_le _, Nat.zero_le _⟩ rfl (Nat.le_of_ble_eq_true rfl) ?_
  obtain ⟨r5, σ4, e6, hF⟩ := bd_e hF
  refine r_callV_i (as := [vI a1, vI a2, vI r2]) (st := []) C dX11_lifeAt_9 (s_X11_lifeOf G l e6) rfl rfl rfl t_6_172 t_6_174 t_s_55 t_1_14 t_6_175 m_X11_lifeOf ⟨Nat.le_of_ble_eq_true rfl, Nat.le_of_ble_eq_true rfl⟩ ⟨rfl, rfl⟩ ⟨Nat.zero_le _, Nat.zero_le _⟩ rfl (Nat.le_of_ble_eq_true rfl) ?_
  exact r_ireturn C dX11_lifeAt_12 (rt_e hF)
def F_X11_isSize (a0 : Int32) (σ : St) : Option (Int32 × St) :=
  bd (F_X11_in (a0.toInt64) (1 : Int64) (60 : Int64) σ) fun r2 σ1 => ck (decide (r2 = 0 ∨ r2 = 1)) (some (r2, σ1))
set_option maxRecDepth 20000 in
set_option maxHeartbeats 4000000 in
theorem s_X11_isSize (G : Gx) (l : Launch) {a0 : Int32} {σ σ' : St} {r : Int32} (hF : F_X11_isSize a0 σ = some (r, σ')) : Sp G l yX11_isSize cX11_isSize 1 (some .boolean) (lvl 1) [vI a0] σ (va_Qi (fun a b => a = r ∧ b = σ') (Wd G) (AG G)) := by
  refine Sp_of (own := RX11) (by decide) rfl (Nat.le_of_ble_eq_true rfl) ?_
  intro p e s m args below meth c C
  show Rt G p l e (lvl 1) s m args below meth c 0 0 (MQ below (va_Qi (fun a b => a = r ∧ b = σ') (Wd G) (AG G)) args s 0 0 (AG G)) 1 0 [(0, vI a0)] [] σ
  unfold F_X11_isSize at hF
  refine r_iload_n C 0 0 dX11_isSize_0 rfl rfl ?_
  refine r_i2l C dX11_isSize_1 ?_
  refine r_lconst (v := (1 : Int64)) C dX11_isSize_2 rfl ?_
  refine r_ldc2_w (v := (60 : Int64)) C dX11_isSize_3 t_6_15 ?_
  obtain ⟨r2, σ1, e3, hF⟩ := bd_e hF
  refine r_callS_i (as := [vL (a0.toInt64), vL (1 : Int64), vL (60 : Int64)]) (st := []) C dX11_isSize_6 (s_X11_in G l e3) t_5_153 t_5_154 t_1_14 t_5_155 m_X11_in ⟨Nat.le_of_ble_eq_true rfl, Nat.le_of_ble_eq_true rfl⟩ ⟨rfl, rfl⟩ ⟨Nat.zero_le _, Nat.zero_le _⟩ rfl (Nat.le_of_ble_eq_true rfl) ?_
  obtain ⟨h4, hF⟩ := ck_e hF
  exact r_zreturn C dX11_isSize_9 (nar_z (bz h4)) (rt_e hF)
def F_X11_isHeat (a0 : Int32) (σ : St) : Option (Int32 × St) :=
  bd (F_X11_in (a0.toInt64) (0 : Int64) (99 : Int64) σ) fun r2 σ1 => ck (decide (r2 = 0 ∨ r2 = 1)) (some (r2, σ1))
set_option maxRecDepth 20000 in
set_option maxHeartbeats 4000000 in
theorem s_X11_isHeat (G : Gx) (l : Launch) {a0 : Int32} {σ σ' : St} {r : Int32} (hF : F_X11_isHeat a0 σ = some (r, σ')) : Sp G l yX11_isHeat cX11_isHeat 1 (some .boolean) (lvl 1) [vI a0] σ (va_Qi (fun a b => a = r ∧ b = σ') (Wd G) (AG G)) := by
  refine Sp_of (own := RX11) (by decide) rfl (Nat.le_of_ble_eq_true rfl) ?_
  intro p e s m args below meth c C
  show Rt G p l e (lvl 1) s m args below meth c 0 0 (MQ below (va_Qi (fun a b => a = r ∧ b = σ') (Wd G) (AG G)) args s 0 0 (AG G)) 1 0 [(0, vI a0)] [] σ
  unfold F_X11_isHeat at hF
  refine r_iload_n C 0 0 dX11_isHeat_0 rfl rfl ?_
  refine r_i2l C dX11_isHeat_1 ?_
  refine r_lconst (v := (0 : Int64)) C dX11_isHeat_2 rfl ?_
  refine r_ldc2_w (v := (99 : Int64)) C dX11_isHeat_3 t_6_7 ?_
  obtain ⟨r2, σ1, e3, hF⟩ := bd_e hF
  refine r_callS_i (as := [vL (a0.toInt64), vL (0 : Int64), vL (99 : Int64)]) (st := []) C dX11_isHeat_6 (s_X11_in G l e3) t_5_153 t_5_154 t_1_14 t_5_155 m_X11_in ⟨Nat.le_of_ble_eq_true rfl, Nat.le_of_ble_eq_true rfl⟩ ⟨rfl, rfl⟩ ⟨Nat.zero_le _, Nat.zero_le _⟩ rfl (Nat.le_of_ble_eq_true rfl) ?_
  obtain ⟨h4, hF⟩ := ck_e hF
  exact r_zreturn C dX11_isHeat_9 (nar_z (bz h4)) (rt_e hF)
def F_X11_life (a1 : Int32) (a2 : Int32) (a3 : Int32) (σ : St) : Option (Int32 × St) :=
  bd (F_X11_isSize a1 σ) fun r2 σ1 => (if r2 = 0 then some ((-1 : Int32), σ1) else bd (F_X11_isHeat a2 σ1) fun r5 σ4 => (if r5 = 0 then some ((-1 : Int32), σ4) else bd (F_X11_lifeAt a1 a2 a3 σ4) fun r8 σ7 => some (r8, σ7)))
set_option maxRecDepth 20000 in
set_option maxHeartbeats 4000000 in
theorem s_X11_life (G : Gx) (l : Launch) {a1 : Int32} {a2 : Int32} {a3 : Int32} {σ σ' : St} {r : Int32} (hF : F_X11_life a1 a2 a3 σ = some (r, σ')) : Sp G l yX11_life cX11_life 4 (some .int) (lvl 4) [vR (40, 0, 0), vI a1, vI a2, vI a3] σ (va_Qi (fun a b => a = r ∧ b = σ') (Wd G) (AG G)) := by
  refine Sp_of (own := RX11) (by decide) rfl (Nat.le_of_ble_eq_true rfl) ?_
  intro p e s m args below meth c C
  show Rt G p l e (lvl 4) s m args below meth c 0 0 (MQ below (va_Qi (fun a b => a = r ∧ b = σ') (Wd G) (AG G)) args s 0 0 (AG G)) 4 0 [(0, vR (40, 0, 0)), (1, vI a1), (2, vI a2), (3, vI a3)] [] σ
  unfold F_X11_life at hF
  refine r_iload_n C 1 1 dX11_life_0 rfl rfl ?_
  obtain ⟨r2, σ1, e3, hF⟩ := bd_e hF
  refine r_callS_i (as := [vI a1]) (st := []) C dX11_life_1 (s_X11_isSize G l e3) t_6_158 t_6_159 t_1_14 t_6_160 m_X11_isSize ⟨Nat.le_of_ble_eq_true rfl, Nat.le_of_ble_eq_true rfl⟩ ⟨rfl, rfl⟩ ⟨Nat.zero_le _, Nat.zero_le _⟩ rfl (Nat.le_of_ble_eq_true rfl) ?_
  refine r_if_eq C 24 dX11_life_4 (by decide)  (fun h11 => ?_) (fun h11 => ?_)
  · have hF := if_t h11 hF
    refine r_iconst (v := (-1 : Int32)) C dX11_life_24 rfl ?_
    exact r_ireturn C dX11_life_25 (rt_e hF)
  · have hF := if_f h11 hF
    refine r_iload_n C 2 2 dX11_life_7 rfl rfl ?_
    obtain ⟨r5, σ4, e6, hF⟩ := bd_e hF
    refine r_callS_i (as := [vI a2]) (st := []) C dX11_life_8 (s_X11_isHeat G l e6) t_6_161 t_6_162 t_1_14 t_6_163 m_X11_isHeat ⟨Nat.le_of_ble_eq_true rfl, Nat.le_of_ble_eq_true rfl⟩ ⟨rfl, rfl⟩ ⟨Nat.zero_le _, Nat.zero_le _⟩ rfl (Nat.le_of_ble_eq_true rfl) ?_
    refine r_if_eq C 24 dX11_life_11 (by decide)  (fun h10 => ?_) (fun h10 => ?_)
    · have hF := if_t h10 hF
      refine r_iconst (v := (-1 : Int32)) C dX11_life_24 rfl ?_
      exact r_ireturn C dX11_life_25 (rt_e hF)
    · have hF := if_f h10 hF
      refine r_aload_n C 0 0 dX11_life_14 rfl rfl ?_
      refine r_iload_n C 1 1 dX11_life_15 rfl rfl ?_
      refine r_iload_n C 2 2 dX11_life_16 rfl rfl ?_
      refine r_iload_n C 3 3 dX11_life_17 rfl rfl ?_
      obtain ⟨r8, σ7, e9, hF⟩ := bd_e hF
      refine r_callV_i (as := [vI a1, vI a2, vI a3]) (st := []) C dX11_life_18 (s_X11_lifeAt G l e9) rfl rfl rfl t_6_164 t_6_166 t_s_53 t_1_14 t_6_167 m_X11_lifeAt ⟨Nat.le_of_ble_eq_true rfl, Nat.le_of_ble_eq_true rfl⟩ ⟨rfl, rfl⟩ ⟨Nat.zero_le _, Nat.zero_le _⟩ rfl (Nat.le_of_ble_eq_true rfl) ?_
      refine r_goto C 25 dX11_life_21 (by decide) ?_
      exact r_ireturn C dX11_life_25 (rt_e hF)
def L_X11_hump_42 (c1 : Int32) (c2 : Int32) (c3 : Int32) : Nat → Int32 → Int32 → Int32 → Int32 → Int32 → Int32 → St → (Int32 → Int32 → Int32 → Int32 → St → Option (Int32 × St)) → Option (Int32 × St)
  | 0, _, _, _, _, _, _, _, _ => none
  | n + 1, v4, v5, v6, v7, v8, v9, τ, kx150 =>
  (if (99 : Int32) < v9 then kx150 v4 v5 v6 v7 τ else bd (F_X11_lifeAt c1 v9 c2 τ) fun r8 σ7 => nam (fun (y10 : Int32) (σ12 : St) => nam (fun (y13 : Int32) (σ15 : St) => nam (fun (y16 : Int32) (σ18 : St) => nam (fun (y19 : Int32) (σ21 : St) => nam (v9 + (1 : Int32)) fun x22 => L_X11_hump_42 c1 c2 c3 n y10 y13 y16 y19 r8 x22 σ21 kx150) fun k20 => (if v9 ≤ 0 then k20 v7 σ18 else (if r8 ≤ v8 then k20 v7 σ18 else (if v7 = (-4 : Int32) then k20 v9 σ18 else k20 v7 σ18)))) fun k17 => (if v9 ≤ 0 then k17 v6 σ15 else (if v6 ≤ r8 then k17 v6 σ15 else k17 r8 σ15))) fun k14 => (if r8 ≤ v5 then k14 v5 σ12 else k14 r8 σ12)) fun k11 => (if r8 ≤ v5 then k11 v4 σ7 else k11 v9 σ7))
def F_X11_hump (a1 : Int32) (a2 : Int32) (a3 : Int32) (σ : St) : Option (Int32 × St) :=
  bd (F_X11_isSize a1 σ) fun r2 σ1 => (if r2 = 0 then some ((-1 : Int32), σ1) else bd (F_X11_in (a3.toInt64) (0 : Int64) (3 : Int64) σ1) fun r5 σ4 => (if r5 = 0 then some ((-1 : Int32), σ4) else L_X11_hump_42 a1 a2 a3 FU (0 : Int32) (-1 : Int32) (100000 : Int32) (-4 : Int32) (0 : Int32) (0 : Int32) σ4 (fun (y32 : Int32) (y33 : Int32) (y34 : Int32) (y35 : Int32) (σ31 : St) => (if a3 = 0 then some (y32, σ31) else (if a3 = (1 : Int32) then some (y33, σ31) else (if a3 = (2 : Int32) then some (y34, σ31) else some (y35, σ31)))))))
set_option maxRecDepth 20000 in
set_option maxHeartbeats 4000000 in
theorem l_X11_hump_42 {G : Gx} {p : Program} {l : Launch} {e : Env} {s : State} {m : MethodId} {args : Array Value} {below : List Frame} {meth : Method} {c : Code} (C : Cx G p s m args meth c (some .int) 11 RX11 cX11_hump) (c1 : Int32) (c2 : Int32) (c3 : Int32) {σ' : St} {r : Int32} (kx150 : Int32 → Int32 → Int32 → Int32 → St → Option (Int32 × St)) (hkx150 : ∀ (w4 : Int32) (w5 : Int32) (w6 : Int32) (w7 : Int32) (τ : St), kx150 w4 w5 w6 w7 τ = some (r, σ') → Rt G p l e (lvl 4) s m args below meth c 0 0 (MQ below (va_Qi (fun a b => a = r ∧ b = σ') (Wd G) (AG G)) args s 0 0 (AG G)) 11 150 [(3, vI c3), (4, vI w4), (5, vI w5), (6, vI w6), (7, vI w7)] [] τ) : ∀ (n : Nat) (v4 : Int32) (v5 : Int32) (v6 : Int32) (v7 : Int32) (v8 : Int32) (v9 : Int32) (τ : St), L_X11_hump_42 c1 c2 c3 n v4 v5 v6 v7 v8 v9 τ kx150 = some (r, σ') → Rt G p l e (lvl 4) s m args below meth c 0 0 (MQ below (va_Qi (fun a b => a = r ∧ b = σ') (Wd G) (AG G)) args s 0 0 (AG G)) 11 42 [(0, vR (40, 0, 0)), (1, vI c1), (2, vI c2), (3, vI c3), (4, vI v4), (5, vI v5), (6, vI v6), (7, vI v7), (8, vI v8), (9, vI v9)] [] τ := by
  intro n
  induction n with
  | zero => intro v4 v5 v6 v7 v8 v9 τ hF; cases hF
  | succ n ih =>
    intro v4 v5 v6 v7 v8 v9 τ hF
    unfold L_X11_hump_42 at hF
    refine r_iload C 9 dX11_hump_42 rfl ?_
    refine r_bipush (v := (99 : Int32)) C dX11_hump_44 rfl ?_
    refine r_icmp_gt C 150 dX11_hump_46 (by decide)  (fun h30 => ?_) (fun h30 => ?_)
    · have hF := if_t h30 hF
      refine r_drop (ls2 := [(3, vI c3), (4, vI v4), (5, vI v5), (6, vI v6), (7, vI v7)]) [3, 4, 5, 6, 7] rfl ?_
      exact hkx150 _ _ _ _ _ hF
    · have hF := if_f h30 hF
      refine r_aload_n C 0 0 dX11_hump_49 rfl rfl ?_
      refine r_iload_n C 1 1 dX11_hump_50 rfl rfl ?_
      refine r_iload C 9 dX11_hump_51 rfl ?_
      refine r_iload_n C 2 2 dX11_hump_53 rfl rfl ?_
      obtain ⟨r8, σ7, e9, hF⟩ := bd_e hF
      refine r_callV_i (as := [vI c1, vI v9, vI c2]) (st := []) C dX11_hump_54 (s_X11_lifeAt G l e9) rfl rfl rfl t_6_164 t_6_166 t_s_53 t_1_14 t_6_167 m_X11_lifeAt ⟨Nat.le_of_ble_eq_true rfl, Nat.le_of_ble_eq_true rfl⟩ ⟨rfl, rfl⟩ ⟨Nat.zero_le _, Nat.zero_le _⟩ rfl (Nat.le_of_ble_eq_true rfl) ?_
      refine r_istore (ls2 := [(10, vI r8), (0, vR (40, 0, 0)), (1, vI c1), (2, vI c2), (3, vI c3), (4, vI v4), (5, vI v5), (6, vI v6), (7, vI v7), (8, vI v8), (9, vI v9)]) C dX11_hump_57 (by decide) rfl ?_
      refine r_iload C 0 dX11_hump_59 rfl ?_
      refine r_iload C 6 dX11_hump_61 rfl ?_
      obtain ⟨k11, ek11, hF⟩ := nam_e hF
      have hk11 : ∀ (y10 : Int32) (σ12 : St), k11 y10 σ12 = some (r, σ') → Rt G p l e (lvl 4) s m args below meth c 0 0 (MQ below (va_Qi (fun a b => a = r ∧ b = σ') (Wd G) (AG G)) args s 0 0 (AG G)) 11 73 [(0, vR (40, 0, 0)), (1, vI c1), (2, vI c2), (3, vI c3), (5, vI v5), (6, vI v6), (7, vI v7), (8, vI v8), (9, vI v9), (10, vI r8)] [vI y10] σ12 := by
        intro y10 σ12 hF
        subst ek11
        refine r_istore (ls2 := [(4, vI y10), (0, vR (40, 0, 0)), (1, vI c1), (2, vI c2), (3, vI c3), (5, vI v5), (6, vI v6), (7, vI v7), (8, vI v8), (9, vI v9), (10, vI r8)]) C dX11_hump_73 (by decide) rfl ?_
        refine r_iload C 10 dX11_hump_75 rfl ?_
        refine r_iload C 5 dX11_hump_77 rfl ?_
        obtain ⟨k14, ek14, hF⟩ := nam_e hF
        have hk14 : ∀ (y13 : Int32) (σ15 : St), k14 y13 σ15 = some (r, σ') → Rt G p l e (lvl 4) s m args below meth c 0 0 (MQ below (va_Qi (fun a b => a = r ∧ b = σ') (Wd G) (AG G)) args s 0 0 (AG G)) 11 89 [(0, vR (40, 0, 0)), (1, vI c1), (2, vI c2), (3, vI c3), (4, vI y10), (6, vI v6), (7, vI v7), (8, vI v8), (9, vI v9), (10, vI r8)] [vI y13] σ15 := by
          intro y13 σ15 hF
          subst ek14
          refine r_istore (ls2 := [(5, vI y13), (0, vR (40, 0, 0)), (1, vI c1), (2, vI c2), (3, vI c3), (4, vI y10), (6, vI v6), (7, vI v7), (8, vI v8), (9, vI v9), (10, vI r8)]) C dX11_hump_89 (by decide) rfl ?_
          refine r_iload C 9 dX11_hump_91 rfl ?_
          obtain ⟨k17, ek17, hF⟩ := nam_e hF
          have hk17 : ∀ (y16 : Int32) (σ18 : St), k17 y16 σ18 = some (r, σ') → Rt G p l e (lvl 4) s m args below meth c 0 0 (MQ below (va_Qi (fun a b => a = r ∧ b = σ') (Wd G) (AG G)) args s 0 0 (AG G)) 11 110 [(0, vR (40, 0, 0)), (1, vI c1), (2, vI c2), (3, vI c3), (4, vI y10), (5, vI y13), (7, vI v7), (8, vI v8), (9, vI v9), (10, vI r8)] [vI y16] σ18 := by
            intro y16 σ18 hF
            subst ek17
            refine r_istore (ls2 := [(6, vI y16), (0, vR (40, 0, 0)), (1, vI c1), (2, vI c2), (3, vI c3), (4, vI y10), (5, vI y13), (7, vI v7), (8, vI v8), (9, vI v9), (10, vI r8)]) C dX11_hump_110 (by decide) rfl ?_
            refine r_iload C 9 dX11_hump_112 rfl ?_
            obtain ⟨k20, ek20, hF⟩ := nam_e hF
            have hk20 : ∀ (y19 : Int32) (σ21 : St), k20 y19 σ21 = some (r, σ') → Rt G p l e (lvl 4) s m args below meth c 0 0 (MQ below (va_Qi (fun a b => a = r ∧ b = σ') (Wd G) (AG G)) args s 0 0 (AG G)) 11 138 [(0, vR (40, 0, 0)), (1, vI c1), (2, vI c2), (3, vI c3), (4, vI y10), (5, vI y13), (6, vI y16), (9, vI v9), (10, vI r8)] [vI y19] σ21 := by
              intro y19 σ21 hF
              subst ek20
              refine r_istore (ls2 := [(7, vI y19), (0, vR (40, 0, 0)), (1, vI c1), (2, vI c2), (3, vI c3), (4, vI y10), (5, vI y13), (6, vI y16), (9, vI v9), (10, vI r8)]) C dX11_hump_138 (by decide) rfl ?_
              refine r_iload C 9 dX11_hump_140 rfl ?_
              refine r_istore (ls2 := [(8, vI r8), (7, vI y19), (0, vR (40, 0, 0)), (1, vI c1), (2, vI c2), (3, vI c3), (4, vI y10), (5, vI y13), (6, vI y16), (9, vI v9), (10, vI r8)]) C dX11_hump_142 (by decide) rfl ?_
              obtain ⟨x22, ex22, hF⟩ := nam_e hF
              refine r_iinc (v := x22) (ls2 := [(9, vI x22), (8, vI r8), (7, vI y19), (0, vR (40, 0, 0)), (1, vI c1), (2, vI c2), (3, vI c3), (4, vI y10), (5, vI y13), (6, vI y16), (10, vI r8)]) C 9 dX11_hump_144 rfl ex22.symm (by decide) rfl ?_
              refine r_goto C 42 dX11_hump_147 (by decide) ?_
              refine r_drop (ls2 := [(0, vR (40, 0, 0)), (1, vI c1), (2, vI c2), (3, vI c3), (4, vI y10), (5, vI y13), (6, vI y16), (7, vI y19), (8, vI r8), (9, vI x22)]) [3, 4, 5, 6, 7, 8, 9, 2, 1, 0] rfl ?_
              exact ih _ _ _ _ _ _ _ hF
            refine r_if_le C 136 dX11_hump_114 (by decide)  (fun h25 => ?_) (fun h25 => ?_)
            · have hF := if_t h25 hF
              refine r_iload C 7 dX11_hump_136 rfl ?_
              refine r_drop (ls2 := [(0, vR (40, 0, 0)), (1, vI c1), (2, vI c2), (3, vI c3), (4, vI y10), (5, vI y13), (6, vI y16), (9, vI v9), (10, vI r8)]) [1, 2, 3, 4, 5, 6, 0, 9, 10] rfl ?_
              exact hk20 _ _ hF
            · have hF := if_f h25 hF
              refine r_iload C 10 dX11_hump_117 rfl ?_
              refine r_iload C 8 dX11_hump_119 rfl ?_
              refine r_icmp_le C 136 dX11_hump_121 (by decide)  (fun h24 => ?_) (fun h24 => ?_)
              · have hF := if_t h24 hF
                refine r_iload C 7 dX11_hump_136 rfl ?_
                refine r_drop (ls2 := [(0, vR (40, 0, 0)), (1, vI c1), (2, vI c2), (3, vI c3), (4, vI y10), (5, vI y13), (6, vI y16), (9, vI v9), (10, vI r8)]) [1, 2, 3, 4, 5, 6, 0, 9, 10] rfl ?_
                exact hk20 _ _ hF
              · have hF := if_f h24 hF
                refine r_iload C 7 dX11_hump_124 rfl ?_
                refine r_bipush (v := (-4 : Int32)) C dX11_hump_126 rfl ?_
                refine r_icmp_ne C 136 dX11_hump_128 (by decide)  (fun h23 => ?_) (fun h23 => ?_)
                · have hF := if_f h23 hF
                  refine r_iload C 7 dX11_hump_136 rfl ?_
                  refine r_drop (ls2 := [(0, vR (40, 0, 0)), (1, vI c1), (2, vI c2), (3, vI c3), (4, vI y10), (5, vI y13), (6, vI y16), (9, vI v9), (10, vI r8)]) [1, 2, 3, 4, 5, 6, 0, 9, 10] rfl ?_
                  exact hk20 _ _ hF
                · have hF := if_t h23 hF
                  refine r_iload C 9 dX11_hump_131 rfl ?_
                  refine r_goto C 138 dX11_hump_133 (by decide) ?_
                  refine r_drop (ls2 := [(0, vR (40, 0, 0)), (1, vI c1), (2, vI c2), (3, vI c3), (4, vI y10), (5, vI y13), (6, vI y16), (9, vI v9), (10, vI r8)]) [1, 2, 3, 4, 5, 6, 0, 9, 10] rfl ?_
                  exact hk20 _ _ hF
          refine r_if_le C 108 dX11_hump_93 (by decide)  (fun h27 => ?_) (fun h27 => ?_)
          · have hF := if_t h27 hF
            refine r_iload C 6 dX11_hump_108 rfl ?_
            refine r_drop (ls2 := [(0, vR (40, 0, 0)), (1, vI c1), (2, vI c2), (3, vI c3), (4, vI y10), (5, vI y13), (7, vI v7), (8, vI v8), (9, vI v9), (10, vI r8)]) [1, 2, 3, 4, 5, 0, 7, 8, 9, 10] rfl ?_
            exact hk17 _ _ hF
          · have hF := if_f h27 hF
            refine r_iload C 10 dX11_hump_96 rfl ?_
            refine r_iload C 6 dX11_hump_98 rfl ?_
            refine r_icmp_ge C 108 dX11_hump_100 (by decide)  (fun h26 => ?_) (fun h26 => ?_)
            · have hF := if_t h26 hF
              refine r_iload C 6 dX11_hump_108 rfl ?_
              refine r_drop (ls2 := [(0, vR (40, 0, 0)), (1, vI c1), (2, vI c2), (3, vI c3), (4, vI y10), (5, vI y13), (7, vI v7), (8, vI v8), (9, vI v9), (10, vI r8)]) [1, 2, 3, 4, 5, 0, 7, 8, 9, 10] rfl ?_
              exact hk17 _ _ hF
            · have hF := if_f h26 hF
              refine r_iload C 10 dX11_hump_103 rfl ?_
              refine r_goto C 110 dX11_hump_105 (by decide) ?_
              refine r_drop (ls2 := [(0, vR (40, 0, 0)), (1, vI c1), (2, vI c2), (3, vI c3), (4, vI y10), (5, vI y13), (7, vI v7), (8, vI v8), (9, vI v9), (10, vI r8)]) [1, 2, 3, 4, 5, 0, 7, 8, 9, 10] rfl ?_
              exact hk17 _ _ hF
        refine r_icmp_le C 87 dX11_hump_79 (by decide)  (fun h28 => ?_) (fun h28 => ?_)
        · have hF := if_t h28 hF
          refine r_iload C 5 dX11_hump_87 rfl ?_
          refine r_drop (ls2 := [(0, vR (40, 0, 0)), (1, vI c1), (2, vI c2), (3, vI c3), (4, vI y10), (6, vI v6), (7, vI v7), (8, vI v8), (9, vI v9), (10, vI r8)]) [1, 2, 3, 4, 0, 6, 7, 8, 9, 10] rfl ?_
          exact hk14 _ _ hF
        · have hF := if_f h28 hF
          refine r_iload C 10 dX11_hump_82 rfl ?_
          refine r_goto C 89 dX11_hump_84 (by decide) ?_
          refine r_drop (ls2 := [(0, vR (40, 0, 0)), (1, vI c1), (2, vI c2), (3, vI c3), (4, vI y10), (6, vI v6), (7, vI v7), (8, vI v8), (9, vI v9), (10, vI r8)]) [1, 2, 3, 4, 0, 6, 7, 8, 9, 10] rfl ?_
          exact hk14 _ _ hF
      refine r_icmp_le C 71 dX11_hump_63 (by decide)  (fun h29 => ?_) (fun h29 => ?_)
      · have hF := if_t h29 hF
        refine r_iload C 5 dX11_hump_71 rfl ?_
        refine r_drop (ls2 := [(0, vR (40, 0, 0)), (1, vI c1), (2, vI c2), (3, vI c3), (5, vI v5), (6, vI v6), (7, vI v7), (8, vI v8), (9, vI v9), (10, vI r8)]) [1, 2, 3, 4, 6, 7, 8, 9, 10, 0] rfl ?_
        exact hk11 _ _ hF
      · have hF := if_f h29 hF
        refine r_iload C 10 dX11_hump_66 rfl ?_
        refine r_goto C 73 dX11_hump_68 (by decide) ?_
        refine r_drop (ls2 := [(0, vR (40, 0, 0)), (1, vI c1), (2, vI c2), (3, vI c3), (5, vI v5), (6, vI v6), (7, vI v7), (8, vI v8), (9, vI v9), (10, vI r8)]) [1, 2, 3, 4, 6, 7, 8, 9, 10, 0] rfl ?_
        exact hk11 _ _ hF
set_option maxRecDepth 20000 in
set_option maxHeartbeats 4000000 in
theorem s_X11_hump (G : Gx) (l : Launch) {a1 : Int32} {a2 : Int32} {a3 : Int32} {σ σ' : St} {r : Int32} (hF : F_X11_hump a1 a2 a3 σ = some (r, σ')) : Sp G l yX11_hump cX11_hump 11 (some .int) (lvl 4) [vR (40, 0, 0), vI a1, vI a2, vI a3] σ (va_Qi (fun a b => a = r ∧ b = σ') (Wd G) (AG G)) := by
  refine Sp_of (own := RX11) (by decide) rfl (Nat.le_of_ble_eq_true rfl) ?_
  intro p e s m args below meth c C
  show Rt G p l e (lvl 4) s m args below meth c 0 0 (MQ below (va_Qi (fun a b => a = r ∧ b = σ') (Wd G) (AG G)) args s 0 0 (AG G)) 11 0 [(0, vR (40, 0, 0)), (1, vI a1), (2, vI a2), (3, vI a3)] [] σ
  unfold F_X11_hump at hF
  refine r_iload_n C 1 1 dX11_hump_0 rfl rfl ?_
  obtain ⟨r2, σ1, e3, hF⟩ := bd_e hF
  refine r_callS_i (as := [vI a1]) (st := []) C dX11_hump_1 (s_X11_isSize G l e3) t_6_158 t_6_159 t_1_14 t_6_160 m_X11_isSize ⟨Nat.le_of_ble_eq_true rfl, Nat.le_of_ble_eq_true rfl⟩ ⟨rfl, rfl⟩ ⟨Nat.zero_le _, Nat.zero_le _⟩ rfl (Nat.le_of_ble_eq_true rfl) ?_
  refine r_if_eq C 19 dX11_hump_4 (by decide)  (fun h40 => ?_) (fun h40 => ?_)
  · have hF := if_t h40 hF
    refine r_iconst (v := (-1 : Int32)) C dX11_hump_19 rfl ?_
    exact r_ireturn C dX11_hump_20 (rt_e hF)
  · have hF := if_f h40 hF
    refine r_iload_n C 3 3 dX11_hump_7 rfl rfl ?_
    refine r_i2l C dX11_hump_8 ?_
    refine r_lconst (v := (0 : Int64)) C dX11_hump_9 rfl ?_
    refine r_ldc2_w (v := (3 : Int64)) C dX11_hump_10 t_6_16 ?_
    obtain ⟨r5, σ4, e6, hF⟩ := bd_e hF
    refine r_callS_i (as := [vL (a3.toInt64), vL (0 : Int64), vL (3 : Int64)]) (st := []) C dX11_hump_13 (s_X11_in G l e6) t_5_153 t_5_154 t_1_14 t_5_155 m_X11_in ⟨Nat.le_of_ble_eq_true rfl, Nat.le_of_ble_eq_true rfl⟩ ⟨rfl, rfl⟩ ⟨Nat.zero_le _, Nat.zero_le _⟩ rfl (Nat.le_of_ble_eq_true rfl) ?_
    refine r_if_ne C 21 dX11_hump_16 (by decide)  (fun h39 => ?_) (fun h39 => ?_)
    · have hF := if_f h39 hF
      refine r_iconst (v := (0 : Int32)) C dX11_hump_21 rfl ?_
      refine r_istore (ls2 := [(4, vI (0 : Int32)), (0, vR (40, 0, 0)), (1, vI a1), (2, vI a2), (3, vI a3)]) C dX11_hump_22 (by decide) rfl ?_
      refine r_iconst (v := (-1 : Int32)) C dX11_hump_24 rfl ?_
      refine r_istore (ls2 := [(5, vI (-1 : Int32)), (4, vI (0 : Int32)), (0, vR (40, 0, 0)), (1, vI a1), (2, vI a2), (3, vI a3)]) C dX11_hump_25 (by decide) rfl ?_
      refine r_ldc_w (v := (100000 : Int32)) C dX11_hump_27 t_6_180 ?_
      refine r_istore (ls2 := [(6, vI (100000 : Int32)), (5, vI (-1 : Int32)), (4, vI (0 : Int32)), (0, vR (40, 0, 0)), (1, vI a1), (2, vI a2), (3, vI a3)]) C dX11_hump_30 (by decide) rfl ?_
      refine r_bipush (v := (-4 : Int32)) C dX11_hump_32 rfl ?_
      refine r_istore (ls2 := [(7, vI (-4 : Int32)), (6, vI (100000 : Int32)), (5, vI (-1 : Int32)), (4, vI (0 : Int32)), (0, vR (40, 0, 0)), (1, vI a1), (2, vI a2), (3, vI a3)]) C dX11_hump_34 (by decide) rfl ?_
      refine r_iconst (v := (0 : Int32)) C dX11_hump_36 rfl ?_
      refine r_istore (ls2 := [(8, vI (0 : Int32)), (7, vI (-4 : Int32)), (6, vI (100000 : Int32)), (5, vI (-1 : Int32)), (4, vI (0 : Int32)), (0, vR (40, 0, 0)), (1, vI a1), (2, vI a2), (3, vI a3)]) C dX11_hump_37 (by decide) rfl ?_
      refine r_iconst (v := (0 : Int32)) C dX11_hump_39 rfl ?_
      refine r_istore (ls2 := [(9, vI (0 : Int32)), (8, vI (0 : Int32)), (7, vI (-4 : Int32)), (6, vI (100000 : Int32)), (5, vI (-1 : Int32)), (4, vI (0 : Int32)), (0, vR (40, 0, 0)), (1, vI a1), (2, vI a2), (3, vI a3)]) C dX11_hump_40 (by decide) rfl ?_
      refine r_drop (ls2 := [(0, vR (40, 0, 0)), (1, vI a1), (2, vI a2), (3, vI a3), (4, vI (0 : Int32)), (5, vI (-1 : Int32)), (6, vI (100000 : Int32)), (7, vI (-4 : Int32)), (8, vI (0 : Int32)), (9, vI (0 : Int32))]) [6, 7, 8, 9, 5, 4, 3, 2, 1, 0] rfl ?_
      refine l_X11_hump_42 C a1 a2 a3 _ ?_ _ _ _ _ _ _ _ _ hF
      · intro y32 y33 y34 y35 σ31 hF
        refine r_iload_n C 0 3 dX11_hump_150 rfl rfl ?_
        refine r_if_ne C 159 dX11_hump_151 (by decide)  (fun h38 => ?_) (fun h38 => ?_)
        · have hF := if_f h38 hF
          refine r_iload_n C 0 3 dX11_hump_159 rfl rfl ?_
          refine r_iconst (v := (1 : Int32)) C dX11_hump_160 rfl ?_
          refine r_icmp_ne C 169 dX11_hump_161 (by decide)  (fun h37 => ?_) (fun h37 => ?_)
          · have hF := if_f h37 hF
            refine r_iload_n C 0 3 dX11_hump_169 rfl rfl ?_
            refine r_iconst (v := (2 : Int32)) C dX11_hump_170 rfl ?_
            refine r_icmp_ne C 179 dX11_hump_171 (by decide)  (fun h36 => ?_) (fun h36 => ?_)
            · have hF := if_f h36 hF
              refine r_iload C 4 dX11_hump_179 rfl ?_
              exact r_ireturn C dX11_hump_181 (rt_e hF)
            · have hF := if_t h36 hF
              refine r_iload C 3 dX11_hump_174 rfl ?_
              refine r_goto C 181 dX11_hump_176 (by decide) ?_
              exact r_ireturn C dX11_hump_181 (rt_e hF)
          · have hF := if_t h37 hF
            refine r_iload C 2 dX11_hump_164 rfl ?_
            refine r_goto C 181 dX11_hump_166 (by decide) ?_
            exact r_ireturn C dX11_hump_181 (rt_e hF)
        · have hF := if_t h38 hF
          refine r_iload C 1 dX11_hump_154 rfl ?_
          refine r_goto C 181 dX11_hump_156 (by decide) ?_
          exact r_ireturn C dX11_hump_181 (rt_e hF)
    · have hF := if_t h39 hF
      refine r_iconst (v := (-1 : Int32)) C dX11_hump_19 rfl ?_
      exact r_ireturn C dX11_hump_20 (rt_e hF)
def F_X11_isLife (a0 : Int32) (σ : St) : Option (Int32 × St) :=
  bd (F_X11_in (a0.toInt64) (0 : Int64) (999 : Int64) σ) fun r2 σ1 => ck (decide (r2 = 0 ∨ r2 = 1)) (some (r2, σ1))
set_option maxRecDepth 20000 in
set_option maxHeartbeats 4000000 in
theorem s_X11_isLife (G : Gx) (l : Launch) {a0 : Int32} {σ σ' : St} {r : Int32} (hF : F_X11_isLife a0 σ = some (r, σ')) : Sp G l yX11_isLife cX11_isLife 1 (some .boolean) (lvl 1) [vI a0] σ (va_Qi (fun a b => a = r ∧ b = σ') (Wd G) (AG G)) := by
  refine Sp_of (own := RX11) (by decide) rfl (Nat.le_of_ble_eq_true rfl) ?_
  intro p e s m args below meth c C
  show Rt G p l e (lvl 1) s m args below meth c 0 0 (MQ below (va_Qi (fun a b => a = r ∧ b = σ') (Wd G) (AG G)) args s 0 0 (AG G)) 1 0 [(0, vI a0)] [] σ
  unfold F_X11_isLife at hF
  refine r_iload_n C 0 0 dX11_isLife_0 rfl rfl ?_
  refine r_i2l C dX11_isLife_1 ?_
  refine r_lconst (v := (0 : Int64)) C dX11_isLife_2 rfl ?_
  refine r_ldc2_w (v := (999 : Int64)) C dX11_isLife_3 t_6_188 ?_
  obtain ⟨r2, σ1, e3, hF⟩ := bd_e hF
  refine r_callS_i (as := [vL (a0.toInt64), vL (0 : Int64), vL (999 : Int64)]) (st := []) C dX11_isLife_6 (s_X11_in G l e3) t_5_153 t_5_154 t_1_14 t_5_155 m_X11_in ⟨Nat.le_of_ble_eq_true rfl, Nat.le_of_ble_eq_true rfl⟩ ⟨rfl, rfl⟩ ⟨Nat.zero_le _, Nat.zero_le _⟩ rfl (Nat.le_of_ble_eq_true rfl) ?_
  obtain ⟨h4, hF⟩ := ck_e hF
  exact r_zreturn C dX11_isLife_9 (nar_z (bz h4)) (rt_e hF)
def L_X11_hot_43 (c1 : Int32) (c2 : Int32) (c3 : Int32) (c4 : Int32) : Nat → Int32 → Int32 → Int32 → Int32 → St → (Int32 → Int32 → Int32 → St → Option (Int32 × St)) → Option (Int32 × St)
  | 0, _, _, _, _, _, _ => none
  | n + 1, v5, v6, v7, v8, τ, kx91 =>
  (if (99 : Int32) < v8 then kx91 v5 v6 v7 τ else bd (F_X11_lifeAt c1 v8 c3 τ) fun r11 σ10 => nam (fun (y13 : Int32) (y14 : Int32) (y15 : Int32) (σ17 : St) => nam (v8 + (1 : Int32)) fun x18 => L_X11_hot_43 c1 c2 c3 c4 n y13 y14 y15 x18 σ17 kx91) fun k16 => (if r11 = c2 then nam (v5 + (1 : Int32)) fun x19 => nam (fun (y20 : Int32) (σ22 : St) => k16 x19 y20 v8 σ22) fun k21 => (if v6 = (-4 : Int32) then k21 v8 σ10 else k21 v6 σ10) else k16 v5 v6 v7 σ10))
def F_X11_hot (a1 : Int32) (a2 : Int32) (a3 : Int32) (a4 : Int32) (σ : St) : Option (Int32 × St) :=
  bd (F_X11_isSize a1 σ) fun r2 σ1 => (if r2 = 0 then some ((-1 : Int32), σ1) else bd (F_X11_isLife a2 σ1) fun r5 σ4 => (if r5 = 0 then some ((-1 : Int32), σ4) else bd (F_X11_in (a4.toInt64) (0 : Int64) (2 : Int64) σ4) fun r8 σ7 => (if r8 = 0 then some ((-1 : Int32), σ7) else L_X11_hot_43 a1 a2 a3 a4 FU (0 : Int32) (-4 : Int32) (-4 : Int32) (0 : Int32) σ7 (fun (y27 : Int32) (y28 : Int32) (y29 : Int32) (σ26 : St) => (if a4 = 0 then some (y27, σ26) else (if a4 = (1 : Int32) then some (y28, σ26) else some (y29, σ26)))))))
set_option maxRecDepth 20000 in
set_option maxHeartbeats 4000000 in
theorem l_X11_hot_43 {G : Gx} {p : Program} {l : Launch} {e : Env} {s : State} {m : MethodId} {args : Array Value} {below : List Frame} {meth : Method} {c : Code} (C : Cx G p s m args meth c (some .int) 9 RX11 cX11_hot) (c1 : Int32) (c2 : Int32) (c3 : Int32) (c4 : Int32) {σ' : St} {r : Int32} (kx91 : Int32 → Int32 → Int32 → St → Option (Int32 × St)) (hkx91 : ∀ (w5 : Int32) (w6 : Int32) (w7 : Int32) (τ : St), kx91 w5 w6 w7 τ = some (r, σ') → Rt G p l e (lvl 4) s m args below meth c 0 0 (MQ below (va_Qi (fun a b => a = r ∧ b = σ') (Wd G) (AG G)) args s 0 0 (AG G)) 9 91 [(4, vI c4), (5, vI w5), (6, vI w6), (7, vI w7)] [] τ) : ∀ (n : Nat) (v5 : Int32) (v6 : Int32) (v7 : Int32) (v8 : Int32) (τ : St), L_X11_hot_43 c1 c2 c3 c4 n v5 v6 v7 v8 τ kx91 = some (r, σ') → Rt G p l e (lvl 4) s m args below meth c 0 0 (MQ below (va_Qi (fun a b => a = r ∧ b = σ') (Wd G) (AG G)) args s 0 0 (AG G)) 9 43 [(0, vR (40, 0, 0)), (1, vI c1), (2, vI c2), (3, vI c3), (4, vI c4), (5, vI v5), (6, vI v6), (7, vI v7), (8, vI v8)] [] τ := by
  intro n
  induction n with
  | zero => intro v5 v6 v7 v8 τ hF; cases hF
  | succ n ih =>
    intro v5 v6 v7 v8 τ hF
    unfold L_X11_hot_43 at hF
    refine r_iload C 8 dX11_hot_43 rfl ?_
    refine r_bipush (v := (99 : Int32)) C dX11_hot_45 rfl ?_
    refine r_icmp_gt C 91 dX11_hot_47 (by decide)  (fun h25 => ?_) (fun h25 => ?_)
    · have hF := if_t h25 hF
      refine r_drop (ls2 := [(4, vI c4), (5, vI v5), (6, vI v6), (7, vI v7)]) [4, 5, 6, 7] rfl ?_
      exact hkx91 _ _ _ _ hF
    · have hF := if_f h25 hF
      refine r_aload_n C 0 0 dX11_hot_50 rfl rfl ?_
      refine r_iload_n C 1 1 dX11_hot_51 rfl rfl ?_
      refine r_iload C 8 dX11_hot_52 rfl ?_
      refine r_iload_n C 3 3 dX11_hot_54 rfl rfl ?_
      obtain ⟨r11, σ10, e12, hF⟩ := bd_e hF
      refine r_callV_i (as := [vI c1, vI v8, vI c3]) (st := []) C dX11_hot_55 (s_X11_lifeAt G l e12) rfl rfl rfl t_6_164 t_6_166 t_s_53 t_1_14 t_6_167 m_X11_lifeAt ⟨Nat.le_of_ble_eq_true rfl, Nat.le_of_ble_eq_true rfl⟩ ⟨rfl, rfl⟩ ⟨Nat.zero_le _, Nat.zero_le _⟩ rfl (Nat.le_of_ble_eq_true rfl) ?_
      refine r_iload_n C 2 2 dX11_hot_58 rfl rfl ?_
      obtain ⟨k16, ek16, hF⟩ := nam_e hF
      have hk16 : ∀ (y13 : Int32) (y14 : Int32) (y15 : Int32) (σ17 : St), k16 y13 y14 y15 σ17 = some (r, σ') → Rt G p l e (lvl 4) s m args below meth c 0 0 (MQ below (va_Qi (fun a b => a = r ∧ b = σ') (Wd G) (AG G)) args s 0 0 (AG G)) 9 85 [(0, vR (40, 0, 0)), (1, vI c1), (2, vI c2), (3, vI c3), (4, vI c4), (5, vI y13), (6, vI y14), (7, vI y15), (8, vI v8)] [] σ17 := by
        intro y13 y14 y15 σ17 hF
        subst ek16
        obtain ⟨x18, ex18, hF⟩ := nam_e hF
        refine r_iinc (v := x18) (ls2 := [(8, vI x18), (0, vR (40, 0, 0)), (1, vI c1), (2, vI c2), (3, vI c3), (4, vI c4), (5, vI y13), (6, vI y14), (7, vI y15)]) C 8 dX11_hot_85 rfl ex18.symm (by decide) rfl ?_
        refine r_goto C 43 dX11_hot_88 (by decide) ?_
        refine r_drop (ls2 := [(0, vR (40, 0, 0)), (1, vI c1), (2, vI c2), (3, vI c3), (4, vI c4), (5, vI y13), (6, vI y14), (7, vI y15), (8, vI x18)]) [1, 2, 3, 4, 5, 6, 7, 8, 0] rfl ?_
        exact ih _ _ _ _ _ hF
      refine r_icmp_ne C 85 dX11_hot_59 (by decide)  (fun h24 => ?_) (fun h24 => ?_)
      · have hF := if_f h24 hF
        exact hk16 _ _ _ _ hF
      · have hF := if_t h24 hF
        obtain ⟨x19, ex19, hF⟩ := nam_e hF
        refine r_iinc (v := x19) (ls2 := [(5, vI x19), (0, vR (40, 0, 0)), (1, vI c1), (2, vI c2), (3, vI c3), (4, vI c4), (6, vI v6), (7, vI v7), (8, vI v8)]) C 5 dX11_hot_62 rfl ex19.symm (by decide) rfl ?_
        refine r_iload C 6 dX11_hot_65 rfl ?_
        refine r_bipush (v := (-4 : Int32)) C dX11_hot_67 rfl ?_
        obtain ⟨k21, ek21, hF⟩ := nam_e hF
        have hk21 : ∀ (y20 : Int32) (σ22 : St), k21 y20 σ22 = some (r, σ') → Rt G p l e (lvl 4) s m args below meth c 0 0 (MQ below (va_Qi (fun a b => a = r ∧ b = σ') (Wd G) (AG G)) args s 0 0 (AG G)) 9 79 [(0, vR (40, 0, 0)), (1, vI c1), (2, vI c2), (3, vI c3), (4, vI c4), (5, vI x19), (8, vI v8)] [vI y20] σ22 := by
          intro y20 σ22 hF
          subst ek21
          refine r_istore (ls2 := [(6, vI y20), (0, vR (40, 0, 0)), (1, vI c1), (2, vI c2), (3, vI c3), (4, vI c4), (5, vI x19), (8, vI v8)]) C dX11_hot_79 (by decide) rfl ?_
          refine r_iload C 7 dX11_hot_81 rfl ?_
          refine r_istore (ls2 := [(7, vI v8), (6, vI y20), (0, vR (40, 0, 0)), (1, vI c1), (2, vI c2), (3, vI c3), (4, vI c4), (5, vI x19), (8, vI v8)]) C dX11_hot_83 (by decide) rfl ?_
          refine r_drop (ls2 := [(0, vR (40, 0, 0)), (1, vI c1), (2, vI c2), (3, vI c3), (4, vI c4), (5, vI x19), (6, vI y20), (7, vI v8), (8, vI v8)]) [2, 3, 4, 5, 6, 7, 1, 0, 8] rfl ?_
          exact hk16 _ _ _ _ hF
        refine r_icmp_ne C 77 dX11_hot_69 (by decide)  (fun h23 => ?_) (fun h23 => ?_)
        · have hF := if_f h23 hF
          refine r_iload C 6 dX11_hot_77 rfl ?_
          refine r_drop (ls2 := [(0, vR (40, 0, 0)), (1, vI c1), (2, vI c2), (3, vI c3), (4, vI c4), (5, vI x19), (8, vI v8)]) [1, 2, 3, 4, 5, 0, 8] rfl ?_
          exact hk21 _ _ hF
        · have hF := if_t h23 hF
          refine r_iload C 8 dX11_hot_72 rfl ?_
          refine r_goto C 79 dX11_hot_74 (by decide) ?_
          refine r_drop (ls2 := [(0, vR (40, 0, 0)), (1, vI c1), (2, vI c2), (3, vI c3), (4, vI c4), (5, vI x19), (8, vI v8)]) [1, 2, 3, 4, 5, 0, 8] rfl ?_
          exact hk21 _ _ hF
set_option maxRecDepth 20000 in
set_option maxHeartbeats 4000000 in
theorem s_X11_hot (G : Gx) (l : Launch) {a1 : Int32} {a2 : Int32} {a3 : Int32} {a4 : Int32} {σ σ' : St} {r : Int32} (hF : F_X11_hot a1 a2 a3 a4 σ = some (r, σ')) : Sp G l yX11_hot cX11_hot 9 (some .int) (lvl 4) [vR (40, 0, 0), vI a1, vI a2, vI a3, vI a4] σ (va_Qi (fun a b => a = r ∧ b = σ') (Wd G) (AG G)) := by
  refine Sp_of (own := RX11) (by decide) rfl (Nat.le_of_ble_eq_true rfl) ?_
  intro p e s m args below meth c C
  show Rt G p l e (lvl 4) s m args below meth c 0 0 (MQ below (va_Qi (fun a b => a = r ∧ b = σ') (Wd G) (AG G)) args s 0 0 (AG G)) 9 0 [(0, vR (40, 0, 0)), (1, vI a1), (2, vI a2), (3, vI a3), (4, vI a4)] [] σ
  unfold F_X11_hot at hF
  refine r_iload_n C 1 1 dX11_hot_0 rfl rfl ?_
  obtain ⟨r2, σ1, e3, hF⟩ := bd_e hF
  refine r_callS_i (as := [vI a1]) (st := []) C dX11_hot_1 (s_X11_isSize G l e3) t_6_158 t_6_159 t_1_14 t_6_160 m_X11_isSize ⟨Nat.le_of_ble_eq_true rfl, Nat.le_of_ble_eq_true rfl⟩ ⟨rfl, rfl⟩ ⟨Nat.zero_le _, Nat.zero_le _⟩ rfl (Nat.le_of_ble_eq_true rfl) ?_
  refine r_if_eq C 27 dX11_hot_4 (by decide)  (fun h34 => ?_) (fun h34 => ?_)
  · have hF := if_t h34 hF
    refine r_iconst (v := (-1 : Int32)) C dX11_hot_27 rfl ?_
    exact r_ireturn C dX11_hot_28 (rt_e hF)
  · have hF := if_f h34 hF
    refine r_iload_n C 2 2 dX11_hot_7 rfl rfl ?_
    obtain ⟨r5, σ4, e6, hF⟩ := bd_e hF
    refine r_callS_i (as := [vI a2]) (st := []) C dX11_hot_8 (s_X11_isLife G l e6) t_6_185 t_6_186 t_1_14 t_6_187 m_X11_isLife ⟨Nat.le_of_ble_eq_true rfl, Nat.le_of_ble_eq_true rfl⟩ ⟨rfl, rfl⟩ ⟨Nat.zero_le _, Nat.zero_le _⟩ rfl (Nat.le_of_ble_eq_true rfl) ?_
    refine r_if_eq C 27 dX11_hot_11 (by decide)  (fun h33 => ?_) (fun h33 => ?_)
    · have hF := if_t h33 hF
      refine r_iconst (v := (-1 : Int32)) C dX11_hot_27 rfl ?_
      exact r_ireturn C dX11_hot_28 (rt_e hF)
    · have hF := if_f h33 hF
      refine r_iload C 4 dX11_hot_14 rfl ?_
      refine r_i2l C dX11_hot_16 ?_
      refine r_lconst (v := (0 : Int64)) C dX11_hot_17 rfl ?_
      refine r_ldc2_w (v := (2 : Int64)) C dX11_hot_18 t_6_139 ?_
      obtain ⟨r8, σ7, e9, hF⟩ := bd_e hF
      refine r_callS_i (as := [vL (a4.toInt64), vL (0 : Int64), vL (2 : Int64)]) (st := []) C dX11_hot_21 (s_X11_in G l e9) t_5_153 t_5_154 t_1_14 t_5_155 m_X11_in ⟨Nat.le_of_ble_eq_true rfl, Nat.le_of_ble_eq_true rfl⟩ ⟨rfl, rfl⟩ ⟨Nat.zero_le _, Nat.zero_le _⟩ rfl (Nat.le_of_ble_eq_true rfl) ?_
      refine r_if_ne C 29 dX11_hot_24 (by decide)  (fun h32 => ?_) (fun h32 => ?_)
      · have hF := if_f h32 hF
        refine r_iconst (v := (0 : Int32)) C dX11_hot_29 rfl ?_
        refine r_istore (ls2 := [(5, vI (0 : Int32)), (0, vR (40, 0, 0)), (1, vI a1), (2, vI a2), (3, vI a3), (4, vI a4)]) C dX11_hot_30 (by decide) rfl ?_
        refine r_bipush (v := (-4 : Int32)) C dX11_hot_32 rfl ?_
        refine r_istore (ls2 := [(6, vI (-4 : Int32)), (5, vI (0 : Int32)), (0, vR (40, 0, 0)), (1, vI a1), (2, vI a2), (3, vI a3), (4, vI a4)]) C dX11_hot_34 (by decide) rfl ?_
        refine r_bipush (v := (-4 : Int32)) C dX11_hot_36 rfl ?_
        refine r_istore (ls2 := [(7, vI (-4 : Int32)), (6, vI (-4 : Int32)), (5, vI (0 : Int32)), (0, vR (40, 0, 0)), (1, vI a1), (2, vI a2), (3, vI a3), (4, vI a4)]) C dX11_hot_38 (by decide) rfl ?_
        refine r_iconst (v := (0 : Int32)) C dX11_hot_40 rfl ?_
        refine r_istore (ls2 := [(8, vI (0 : Int32)), (7, vI (-4 : Int32)), (6, vI (-4 : Int32)), (5, vI (0 : Int32)), (0, vR (40, 0, 0)), (1, vI a1), (2, vI a2), (3, vI a3), (4, vI a4)]) C dX11_hot_41 (by decide) rfl ?_
        refine r_drop (ls2 := [(0, vR (40, 0, 0)), (1, vI a1), (2, vI a2), (3, vI a3), (4, vI a4), (5, vI (0 : Int32)), (6, vI (-4 : Int32)), (7, vI (-4 : Int32)), (8, vI (0 : Int32))]) [4, 5, 6, 7, 8, 3, 2, 1, 0] rfl ?_
        refine l_X11_hot_43 C a1 a2 a3 a4 _ ?_ _ _ _ _ _ _ hF
        · intro y27 y28 y29 σ26 hF
          refine r_iload C 0 dX11_hot_91 rfl ?_
          refine r_if_ne C 101 dX11_hot_93 (by decide)  (fun h31 => ?_) (fun h31 => ?_)
          · have hF := if_f h31 hF
            refine r_iload C 0 dX11_hot_101 rfl ?_
            refine r_iconst (v := (1 : Int32)) C dX11_hot_103 rfl ?_
            refine r_icmp_ne C 112 dX11_hot_104 (by decide)  (fun h30 => ?_) (fun h30 => ?_)
            · have hF := if_f h30 hF
              refine r_iload C 3 dX11_hot_112 rfl ?_
              exact r_ireturn C dX11_hot_114 (rt_e hF)
            · have hF := if_t h30 hF
              refine r_iload C 2 dX11_hot_107 rfl ?_
              refine r_goto C 114 dX11_hot_109 (by decide) ?_
              exact r_ireturn C dX11_hot_114 (rt_e hF)
          · have hF := if_t h31 hF
            refine r_iload C 1 dX11_hot_96 rfl ?_
            refine r_goto C 114 dX11_hot_98 (by decide) ?_
            exact r_ireturn C dX11_hot_114 (rt_e hF)
      · have hF := if_t h32 hF
        refine r_iconst (v := (-1 : Int32)) C dX11_hot_27 rfl ?_
        exact r_ireturn C dX11_hot_28 (rt_e hF)
def L_X11_spreads_5 (c1 : Int32) (c2 : Int64) : Nat → Int32 → St → (St → Option (Int64 × St)) → Option (Int64 × St)
  | 0, _, _, _ => none
  | n + 1, v4, τ, kx26 =>
  (if (96 : Int32) ≤ v4 then kx26  τ else ck (inb v4 96) (nam (uL τ (50, 0, 0) (v4.toNatClampNeg) (0 : Int64)) fun σ2 => nam (v4 + (1 : Int32)) fun x3 => L_X11_spreads_5 c1 c2 n x3 σ2 kx26))
def L_X11_spreads_39 (c1 : Int32) (c4 : Int32) : Nat → Int64 → Int32 → St → (Int64 → St → Option (Int64 × St)) → Option (Int64 × St)
  | 0, _, _, _, _ => none
  | n + 1, v2, v5, τ, kx170 =>
  (if (4 : Int32) ≤ v5 then kx170 v2 τ else ck (inb c4 96) ((if (lg_cmp (τ.2 (49, 0, 0) (c4.toNatClampNeg)) (0 : Int64)) ≤ 0 then kx170 v2 τ else ck (inb c4 576) (nam (fun (y8 : Int32) (σ10 : St) => bd (F_X11_nextTo c4 y8 σ10) fun r12 σ11 => ck (inb c4 576) (nam (fun (y15 : Int32) (σ17 : St) => nam (fun (y18 : Int64) (σ20 : St) => nam (v2 + y18) fun x21 => ck (inb y15 96) (nam (fun (y23 : Int64) (σ25 : St) => ck (inb y15 96) (nam (uL σ25 (50, 0, 0) (y15.toNatClampNeg) ((σ20.2 (50, 0, 0) (y15.toNatClampNeg)) + y23)) fun σ27 => nam (v5 + (1 : Int32)) fun x28 => L_X11_spreads_39 c1 c4 n x21 x28 σ27 kx170)) fun k24 => (if y15 = c1 then k24 (0 : Int64) σ20 else ck (inb c4 96) (k24 (σ20.2 (49, 0, 0) (c4.toNatClampNeg)) σ20)))) fun k19 => (if y15 = c1 then ck (inb c4 96) (k19 (σ17.2 (49, 0, 0) (c4.toNatClampNeg)) σ17) else k19 (0 : Int64) σ17)) fun k16 => (if (σ11.1 (41, 0, 0) (c4.toNatClampNeg)) = (6 : Int32) then k16 c4 σ11 else bd (F_X11_isWall r12 σ11) fun r34 σ33 => (if r34 = 0 then k16 r12 σ33 else k16 c4 σ33)))) fun k9 => (if (4 : Int32) ≤ (τ.1 (41, 0, 0) (c4.toNatClampNeg)) then k9 v5 τ else ck (inb c4 576) (k9 (τ.1 (41, 0, 0) (c4.toNatClampNeg)) τ))))))
def L_X11_spreads_29 (c1 : Int32) : Nat → Int64 → Int32 → St → (Int64 → St → Option (Int64 × St)) → Option (Int64 × St)
  | 0, _, _, _, _ => none
  | n + 1, v2, v4, τ, kx176 =>
  (if (96 : Int32) ≤ v4 then kx176 v2 τ else L_X11_spreads_39 c1 v4 FU v2 (0 : Int32) τ (fun (y43 : Int64) (σ42 : St) => nam (v4 + (1 : Int32)) fun x44 => L_X11_spreads_29 c1 n y43 x44 σ42 kx176))
def L_X11_spreads_179 (c2 : Int64) : Nat → Int32 → St → Option (Int64 × St)
  | 0, _, _ => none
  | n + 1, v4, τ =>
  (if (96 : Int32) ≤ v4 then some (c2, τ) else ck (inb v4 96) (ck (inb v4 96) (nam (uL τ (49, 0, 0) (v4.toNatClampNeg) (τ.2 (50, 0, 0) (v4.toNatClampNeg))) fun σ50 => nam (v4 + (1 : Int32)) fun x51 => L_X11_spreads_179 c2 n x51 σ50)))
def F_X11_spreads (a1 : Int32) (σ : St) : Option (Int64 × St) :=
  L_X11_spreads_5 a1 (0 : Int64) FU (0 : Int32) σ (fun  (σ5 : St) => L_X11_spreads_29 a1 FU (0 : Int64) (0 : Int32) σ5 (fun (y47 : Int64) (σ46 : St) => L_X11_spreads_179 y47 FU (0 : Int32) σ46 ))
set_option maxRecDepth 20000 in
set_option maxHeartbeats 4000000 in
theorem l_X11_spreads_5 {G : Gx} {p : Program} {l : Launch} {e : Env} {s : State} {m : MethodId} {args : Array Value} {below : List Frame} {meth : Method} {c : Code} (C : Cx G p s m args meth c (some .long) 8 RX11 cX11_spreads) (c1 : Int32) (c2 : Int64) {σ' : St} {r : Int64} (kx26 : St → Option (Int64 × St)) (hkx26 : ∀  (τ : St), kx26  τ = some (r, σ') → Rt G p l e (lvl 2) s m args below meth c 0 0 (MQ below (va_Ql (fun a b => a = r ∧ b = σ') (Wd G) (AG G)) args s 0 0 (AG G)) 8 26 [(0, vR (40, 0, 0)), (1, vI c1), (2, vL c2)] [] τ) : ∀ (n : Nat) (v4 : Int32) (τ : St), L_X11_spreads_5 c1 c2 n v4 τ kx26 = some (r, σ') → Rt G p l e (lvl 2) s m args below meth c 0 0 (MQ below (va_Ql (fun a b => a = r ∧ b = σ') (Wd G) (AG G)) args s 0 0 (AG G)) 8 5 [(0, vR (40, 0, 0)), (1, vI c1), (2, vL c2), (4, vI v4)] [] τ := by
  intro n
  induction n with
  | zero => intro v4 τ hF; cases hF
  | succ n ih =>
    intro v4 τ hF
    unfold L_X11_spreads_5 at hF
    refine r_iload C 3 dX11_spreads_5 rfl ?_
    refine r_bipush (v := (96 : Int32)) C dX11_spreads_7 rfl ?_
    refine r_icmp_ge C 26 dX11_spreads_9 (by decide)  (fun h4 => ?_) (fun h4 => ?_)
    · have hF := if_t h4 hF
      refine r_drop (ls2 := [(0, vR (40, 0, 0)), (1, vI c1), (2, vL c2)]) [0, 1, 2] rfl ?_
      exact hkx26 _ hF
    · have hF := if_f h4 hF
      refine r_aload_n C 0 0 dX11_spreads_12 rfl rfl ?_
      refine r_getR (kf := 22) (d2 := (50, 0, 0)) C dX11_spreads_13 rfl rfl f_X11 (by decide) t_5_78 rfl rfl ?_
      refine r_iload C 3 dX11_spreads_16 rfl ?_
      refine r_lconst (v := (0 : Int64)) C dX11_spreads_18 rfl ?_
      obtain ⟨h1, hF⟩ := ck_e hF
      obtain ⟨σ2, eσ2, hF⟩ := nam_e hF
      refine r_lastore C (v4.toNatClampNeg) dX11_spreads_19 rfl h1 rfl eσ2 ?_
      obtain ⟨x3, ex3, hF⟩ := nam_e hF
      refine r_iinc (v := x3) (ls2 := [(4, vI x3), (0, vR (40, 0, 0)), (1, vI c1), (2, vL c2)]) C 3 dX11_spreads_20 rfl ex3.symm (by decide) rfl ?_
      refine r_goto C 5 dX11_spreads_23 (by decide) ?_
      refine r_drop (ls2 := [(0, vR (40, 0, 0)), (1, vI c1), (2, vL c2), (4, vI x3)]) [1, 2, 3, 0] rfl ?_
      exact ih _ _ hF
set_option maxRecDepth 20000 in
set_option maxHeartbeats 4000000 in
theorem l_X11_spreads_39 {G : Gx} {p : Program} {l : Launch} {e : Env} {s : State} {m : MethodId} {args : Array Value} {below : List Frame} {meth : Method} {c : Code} (C : Cx G p s m args meth c (some .long) 8 RX11 cX11_spreads) (c1 : Int32) (c4 : Int32) {σ' : St} {r : Int64} (kx170 : Int64 → St → Option (Int64 × St)) (hkx170 : ∀ (w2 : Int64) (τ : St), kx170 w2 τ = some (r, σ') → Rt G p l e (lvl 2) s m args below meth c 0 0 (MQ below (va_Ql (fun a b => a = r ∧ b = σ') (Wd G) (AG G)) args s 0 0 (AG G)) 8 170 [(0, vR (40, 0, 0)), (1, vI c1), (2, vL w2), (4, vI c4)] [] τ) : ∀ (n : Nat) (v2 : Int64) (v5 : Int32) (τ : St), L_X11_spreads_39 c1 c4 n v2 v5 τ kx170 = some (r, σ') → Rt G p l e (lvl 2) s m args below meth c 0 0 (MQ below (va_Ql (fun a b => a = r ∧ b = σ') (Wd G) (AG G)) args s 0 0 (AG G)) 8 39 [(0, vR (40, 0, 0)), (1, vI c1), (2, vL v2), (4, vI c4), (5, vI v5)] [] τ := by
  intro n
  induction n with
  | zero => intro v2 v5 τ hF; cases hF
  | succ n ih =>
    intro v2 v5 τ hF
    unfold L_X11_spreads_39 at hF
    refine r_iload C 4 dX11_spreads_39 rfl ?_
    refine r_iconst (v := (4 : Int32)) C dX11_spreads_41 rfl ?_
    refine r_icmp_ge C 170 dX11_spreads_42 (by decide)  (fun h41 => ?_) (fun h41 => ?_)
    · have hF := if_t h41 hF
      refine r_drop (ls2 := [(0, vR (40, 0, 0)), (1, vI c1), (2, vL v2), (4, vI c4)]) [0, 1, 2, 3] rfl ?_
      exact hkx170 _ _ hF
    · have hF := if_f h41 hF
      refine r_aload_n C 0 0 dX11_spreads_45 rfl rfl ?_
      refine r_getR (kf := 21) (d2 := (49, 0, 0)) C dX11_spreads_46 rfl rfl f_X11 (by decide) t_5_77 rfl rfl ?_
      refine r_iload C 3 dX11_spreads_49 rfl ?_
      obtain ⟨h6, hF⟩ := ck_e hF
      refine r_laload C (c4.toNatClampNeg) dX11_spreads_51 rfl h6 rfl ?_
      refine r_lconst (v := (0 : Int64)) C dX11_spreads_52 rfl ?_
      refine r_lcmp C dX11_spreads_53 ?_
      refine r_if_le C 170 dX11_spreads_54 (by decide)  (fun h40 => ?_) (fun h40 => ?_)
      · have hF := if_t h40 hF
        refine r_drop (ls2 := [(0, vR (40, 0, 0)), (1, vI c1), (2, vL v2), (4, vI c4)]) [0, 1, 2, 3] rfl ?_
        exact hkx170 _ _ hF
      · have hF := if_f h40 hF
        refine r_iload C 3 dX11_spreads_57 rfl ?_
        refine r_aload_n C 0 0 dX11_spreads_59 rfl rfl ?_
        refine r_getR (kf := 0) (d2 := (41, 0, 0)) C dX11_spreads_60 rfl rfl f_X11 (by decide) t_5_56 rfl rfl ?_
        refine r_iload C 3 dX11_spreads_63 rfl ?_
        obtain ⟨h7, hF⟩ := ck_e hF
        refine r_iaload C (c4.toNatClampNeg) dX11_spreads_65 rfl h7 rfl ?_
        refine r_iconst (v := (4 : Int32)) C dX11_spreads_66 rfl ?_
        obtain ⟨k9, ek9, hF⟩ := nam_e hF
        have hk9 : ∀ (y8 : Int32) (σ10 : St), k9 y8 σ10 = some (r, σ') → Rt G p l e (lvl 2) s m args below meth c 0 0 (MQ below (va_Ql (fun a b => a = r ∧ b = σ') (Wd G) (AG G)) args s 0 0 (AG G)) 8 82 [(0, vR (40, 0, 0)), (1, vI c1), (2, vL v2), (4, vI c4), (5, vI v5)] [vI y8, vI c4] σ10 := by
          intro y8 σ10 hF
          subst ek9
          obtain ⟨r12, σ11, e13, hF⟩ := bd_e hF
          refine r_callS_i (as := [vI c4, vI y8]) (st := []) C dX11_spreads_82 (s_X11_nextTo G l e13) t_6_62 t_6_63 t_1_14 t_6_64 m_X11_nextTo ⟨Nat.le_of_ble_eq_true rfl, Nat.le_of_ble_eq_true rfl⟩ ⟨rfl, rfl⟩ ⟨Nat.zero_le _, Nat.zero_le _⟩ rfl (Nat.le_of_ble_eq_true rfl) ?_
          refine r_istore (ls2 := [(6, vI r12), (0, vR (40, 0, 0)), (1, vI c1), (2, vL v2), (4, vI c4), (5, vI v5)]) C dX11_spreads_85 (by decide) rfl ?_
          refine r_aload_n C 1 0 dX11_spreads_87 rfl rfl ?_
          refine r_getR (kf := 0) (d2 := (41, 0, 0)) C dX11_spreads_88 rfl rfl f_X11 (by decide) t_5_56 rfl rfl ?_
          refine r_iload C 4 dX11_spreads_91 rfl ?_
          obtain ⟨h14, hF⟩ := ck_e hF
          refine r_iaload C (c4.toNatClampNeg) dX11_spreads_93 rfl h14 rfl ?_
          refine r_bipush (v := (6 : Int32)) C dX11_spreads_94 rfl ?_
          obtain ⟨k16, ek16, hF⟩ := nam_e hF
          have hk16 : ∀ (y15 : Int32) (σ17 : St), k16 y15 σ17 = some (r, σ') → Rt G p l e (lvl 2) s m args below meth c 0 0 (MQ below (va_Ql (fun a b => a = r ∧ b = σ') (Wd G) (AG G)) args s 0 0 (AG G)) 8 115 [(0, vR (40, 0, 0)), (1, vI c1), (2, vL v2), (4, vI c4), (5, vI v5)] [vI y15] σ17 := by
            intro y15 σ17 hF
            subst ek16
            refine r_istore (ls2 := [(7, vI y15), (0, vR (40, 0, 0)), (1, vI c1), (2, vL v2), (4, vI c4), (5, vI v5)]) C dX11_spreads_115 (by decide) rfl ?_
            refine r_lload_n C 3 2 dX11_spreads_117 rfl rfl ?_
            refine r_iload C 0 dX11_spreads_118 rfl ?_
            refine r_iload_n C 2 1 dX11_spreads_120 rfl rfl ?_
            obtain ⟨k19, ek19, hF⟩ := nam_e hF
            have hk19 : ∀ (y18 : Int64) (σ20 : St), k19 y18 σ20 = some (r, σ') → Rt G p l e (lvl 2) s m args below meth c 0 0 (MQ below (va_Ql (fun a b => a = r ∧ b = σ') (Wd G) (AG G)) args s 0 0 (AG G)) 8 135 [(0, vR (40, 0, 0)), (1, vI c1), (4, vI c4), (5, vI v5), (7, vI y15)] [vL y18, vL v2] σ20 := by
              intro y18 σ20 hF
              subst ek19
              refine r_ladd C dX11_spreads_135 ?_
              obtain ⟨x21, ex21, hF⟩ := nam_e hF
              refine r_topL ex21 ?_
              refine r_lstore_n (ls2 := [(2, vL x21), (0, vR (40, 0, 0)), (1, vI c1), (4, vI c4), (5, vI v5), (7, vI y15)]) C dX11_spreads_136 2 rfl (by decide) rfl ?_
              refine r_aload_n C 1 0 dX11_spreads_137 rfl rfl ?_
              refine r_getR (kf := 22) (d2 := (50, 0, 0)) C dX11_spreads_138 rfl rfl f_X11 (by decide) t_5_78 rfl rfl ?_
              refine r_iload C 5 dX11_spreads_141 rfl ?_
              refine r_dup2_ri C dX11_spreads_143 ?_
              obtain ⟨h22, hF⟩ := ck_e hF
              refine r_laload C (y15.toNatClampNeg) dX11_spreads_144 rfl h22 rfl ?_
              refine r_iload C 5 dX11_spreads_145 rfl ?_
              refine r_iload_n C 2 1 dX11_spreads_147 rfl rfl ?_
              obtain ⟨k24, ek24, hF⟩ := nam_e hF
              have hk24 : ∀ (y23 : Int64) (σ25 : St), k24 y23 σ25 = some (r, σ') → Rt G p l e (lvl 2) s m args below meth c 0 0 (MQ below (va_Ql (fun a b => a = r ∧ b = σ') (Wd G) (AG G)) args s 0 0 (AG G)) 8 162 [(0, vR (40, 0, 0)), (1, vI c1), (2, vL x21), (4, vI c4), (5, vI v5)] [vL y23, vL (σ20.2 (50, 0, 0) (y15.toNatClampNeg)), vI y15, vR (50, 0, 0)] σ25 := by
                intro y23 σ25 hF
                subst ek24
                refine r_ladd C dX11_spreads_162 ?_
                obtain ⟨h26, hF⟩ := ck_e hF
                obtain ⟨σ27, eσ27, hF⟩ := nam_e hF
                refine r_lastore C (y15.toNatClampNeg) dX11_spreads_163 rfl h26 rfl eσ27 ?_
                obtain ⟨x28, ex28, hF⟩ := nam_e hF
                refine r_iinc (v := x28) (ls2 := [(5, vI x28), (0, vR (40, 0, 0)), (1, vI c1), (2, vL x21), (4, vI c4)]) C 4 dX11_spreads_164 rfl ex28.symm (by decide) rfl ?_
                refine r_goto C 39 dX11_spreads_167 (by decide) ?_
                refine r_drop (ls2 := [(0, vR (40, 0, 0)), (1, vI c1), (2, vL x21), (4, vI c4), (5, vI x28)]) [1, 2, 3, 4, 0] rfl ?_
                exact ih _ _ _ hF
              refine r_icmp_ne C 155 dX11_spreads_148 (by decide)  (fun h30 => ?_) (fun h30 => ?_)
              · have hF := if_f h30 hF
                refine r_aload_n C 1 0 dX11_spreads_155 rfl rfl ?_
                refine r_getR (kf := 21) (d2 := (49, 0, 0)) C dX11_spreads_156 rfl rfl f_X11 (by decide) t_5_77 rfl rfl ?_
                refine r_iload C 3 dX11_spreads_159 rfl ?_
                obtain ⟨h29, hF⟩ := ck_e hF
                refine r_laload C (c4.toNatClampNeg) dX11_spreads_161 rfl h29 rfl ?_
                refine r_drop (ls2 := [(0, vR (40, 0, 0)), (1, vI c1), (2, vL x21), (4, vI c4), (5, vI v5)]) [1, 2, 0, 3, 4] rfl ?_
                exact hk24 _ _ hF
              · have hF := if_t h30 hF
                refine r_lconst (v := (0 : Int64)) C dX11_spreads_151 rfl ?_
                refine r_goto C 162 dX11_spreads_152 (by decide) ?_
                refine r_drop (ls2 := [(0, vR (40, 0, 0)), (1, vI c1), (2, vL x21), (4, vI c4), (5, vI v5)]) [1, 2, 0, 3, 4] rfl ?_
                exact hk24 _ _ hF
            refine r_icmp_ne C 134 dX11_spreads_121 (by decide)  (fun h32 => ?_) (fun h32 => ?_)
            · have hF := if_f h32 hF
              refine r_lconst (v := (0 : Int64)) C dX11_spreads_134 rfl ?_
              refine r_drop (ls2 := [(0, vR (40, 0, 0)), (1, vI c1), (4, vI c4), (5, vI v5), (7, vI y15)]) [1, 2, 4, 5, 0] rfl ?_
              exact hk19 _ _ hF
            · have hF := if_t h32 hF
              refine r_aload_n C 1 0 dX11_spreads_124 rfl rfl ?_
              refine r_getR (kf := 21) (d2 := (49, 0, 0)) C dX11_spreads_125 rfl rfl f_X11 (by decide) t_5_77 rfl rfl ?_
              refine r_iload C 4 dX11_spreads_128 rfl ?_
              obtain ⟨h31, hF⟩ := ck_e hF
              refine r_laload C (c4.toNatClampNeg) dX11_spreads_130 rfl h31 rfl ?_
              refine r_goto C 135 dX11_spreads_131 (by decide) ?_
              refine r_drop (ls2 := [(0, vR (40, 0, 0)), (1, vI c1), (4, vI c4), (5, vI v5), (7, vI y15)]) [1, 2, 4, 5, 0] rfl ?_
              exact hk19 _ _ hF
          refine r_icmp_eq C 108 dX11_spreads_96 (by decide)  (fun h37 => ?_) (fun h37 => ?_)
          · have hF := if_t h37 hF
            refine r_iload C 4 dX11_spreads_108 rfl ?_
            refine r_goto C 115 dX11_spreads_110 (by decide) ?_
            refine r_drop (ls2 := [(0, vR (40, 0, 0)), (1, vI c1), (2, vL v2), (4, vI c4), (5, vI v5)]) [1, 2, 3, 4, 5] rfl ?_
            exact hk16 _ _ hF
          · have hF := if_f h37 hF
            refine r_aload_n C 1 0 dX11_spreads_99 rfl rfl ?_
            refine r_iload C 0 dX11_spreads_100 rfl ?_
            obtain ⟨r34, σ33, e35, hF⟩ := bd_e hF
            refine r_callV_i (as := [vI r12]) (st := []) C dX11_spreads_102 (s_X11_isWall G l e35) rfl rfl rfl t_6_66 t_6_68 t_s_44 t_1_14 t_6_69 m_X11_isWall ⟨Nat.le_of_ble_eq_true rfl, Nat.le_of_ble_eq_true rfl⟩ ⟨rfl, rfl⟩ ⟨Nat.zero_le _, Nat.zero_le _⟩ rfl (Nat.le_of_ble_eq_true rfl) ?_
            refine r_if_eq C 113 dX11_spreads_105 (by decide)  (fun h36 => ?_) (fun h36 => ?_)
            · have hF := if_t h36 hF
              refine r_iload C 0 dX11_spreads_113 rfl ?_
              refine r_drop (ls2 := [(0, vR (40, 0, 0)), (1, vI c1), (2, vL v2), (4, vI c4), (5, vI v5)]) [1, 2, 3, 4, 5] rfl ?_
              exact hk16 _ _ hF
            · have hF := if_f h36 hF
              refine r_iload C 4 dX11_spreads_108 rfl ?_
              refine r_goto C 115 dX11_spreads_110 (by decide) ?_
              refine r_drop (ls2 := [(0, vR (40, 0, 0)), (1, vI c1), (2, vL v2), (4, vI c4), (5, vI v5)]) [1, 2, 3, 4, 5] rfl ?_
              exact hk16 _ _ hF
        refine r_icmp_ge C 80 dX11_spreads_67 (by decide)  (fun h39 => ?_) (fun h39 => ?_)
        · have hF := if_t h39 hF
          refine r_iload C 4 dX11_spreads_80 rfl ?_
          exact hk9 _ _ hF
        · have hF := if_f h39 hF
          refine r_aload_n C 0 0 dX11_spreads_70 rfl rfl ?_
          refine r_getR (kf := 0) (d2 := (41, 0, 0)) C dX11_spreads_71 rfl rfl f_X11 (by decide) t_5_56 rfl rfl ?_
          refine r_iload C 3 dX11_spreads_74 rfl ?_
          obtain ⟨h38, hF⟩ := ck_e hF
          refine r_iaload C (c4.toNatClampNeg) dX11_spreads_76 rfl h38 rfl ?_
          refine r_goto C 82 dX11_spreads_77 (by decide) ?_
          exact hk9 _ _ hF
set_option maxRecDepth 20000 in
set_option maxHeartbeats 4000000 in
theorem l_X11_spreads_29 {G : Gx} {p : Program} {l : Launch} {e : Env} {s : State} {m : MethodId} {args : Array Value} {below : List Frame} {meth : Method} {c : Code} (C : Cx G p s m args meth c (some .long) 8 RX11 cX11_spreads) (c1 : Int32) {σ' : St} {r : Int64} (kx176 : Int64 → St → Option (Int64 × St)) (hkx176 : ∀ (w2 : Int64) (τ : St), kx176 w2 τ = some (r, σ') → Rt G p l e (lvl 2) s m args below meth c 0 0 (MQ below (va_Ql (fun a b => a = r ∧ b = σ') (Wd G) (AG G)) args s 0 0 (AG G)) 8 176 [(0, vR (40, 0, 0)), (2, vL w2)] [] τ) : ∀ (n : Nat) (v2 : Int64) (v4 : Int32) (τ : St), L_X11_spreads_29 c1 n v2 v4 τ kx176 = some (r, σ') → Rt G p l e (lvl 2) s m args below meth c 0 0 (MQ below (va_Ql (fun a b => a = r ∧ b = σ') (Wd G) (AG G)) args s 0 0 (AG G)) 8 29 [(0, vR (40, 0, 0)), (1, vI c1), (2, vL v2), (4, vI v4)] [] τ := by
  intro n
  induction n with
  | zero => intro v2 v4 τ hF; cases hF
  | succ n ih =>
    intro v2 v4 τ hF
    unfold L_X11_spreads_29 at hF
    refine r_iload C 3 dX11_spreads_29 rfl ?_
    refine r_bipush (v := (96 : Int32)) C dX11_spreads_31 rfl ?_
    refine r_icmp_ge C 176 dX11_spreads_33 (by decide)  (fun h45 => ?_) (fun h45 => ?_)
    · have hF := if_t h45 hF
      refine r_drop (ls2 := [(0, vR (40, 0, 0)), (2, vL v2)]) [0, 2] rfl ?_
      exact hkx176 _ _ hF
    · have hF := if_f h45 hF
      refine r_iconst (v := (0 : Int32)) C dX11_spreads_36 rfl ?_
      refine r_istore (ls2 := [(5, vI (0 : Int32)), (0, vR (40, 0, 0)), (1, vI c1), (2, vL v2), (4, vI v4)]) C dX11_spreads_37 (by decide) rfl ?_
      refine r_drop (ls2 := [(0, vR (40, 0, 0)), (1, vI c1), (2, vL v2), (4, vI v4), (5, vI (0 : Int32))]) [1, 2, 3, 4, 0] rfl ?_
      refine l_X11_spreads_39 C c1 v4 _ ?_ _ _ _ _ hF
      · intro y43 σ42 hF
        obtain ⟨x44, ex44, hF⟩ := nam_e hF
        refine r_iinc (v := x44) (ls2 := [(4, vI x44), (0, vR (40, 0, 0)), (1, vI c1), (2, vL y43)]) C 3 dX11_spreads_170 rfl ex44.symm (by decide) rfl ?_
        refine r_goto C 29 dX11_spreads_173 (by decide) ?_
        refine r_drop (ls2 := [(0, vR (40, 0, 0)), (1, vI c1), (2, vL y43), (4, vI x44)]) [1, 2, 3, 0] rfl ?_
        exact ih _ _ _ hF
set_option maxRecDepth 20000 in
set_option maxHeartbeats 4000000 in
theorem l_X11_spreads_179 {G : Gx} {p : Program} {l : Launch} {e : Env} {s : State} {m : MethodId} {args : Array Value} {below : List Frame} {meth : Method} {c : Code} (C : Cx G p s m args meth c (some .long) 8 RX11 cX11_spreads) (c2 : Int64) {σ' : St} {r : Int64} : ∀ (n : Nat) (v4 : Int32) (τ : St), L_X11_spreads_179 c2 n v4 τ = some (r, σ') → Rt G p l e (lvl 2) s m args below meth c 0 0 (MQ below (va_Ql (fun a b => a = r ∧ b = σ') (Wd G) (AG G)) args s 0 0 (AG G)) 8 179 [(0, vR (40, 0, 0)), (2, vL c2), (4, vI v4)] [] τ := by
  intro n
  induction n with
  | zero => intro v4 τ hF; cases hF
  | succ n ih =>
    intro v4 τ hF
    unfold L_X11_spreads_179 at hF
    refine r_iload C 2 dX11_spreads_179 rfl ?_
    refine r_bipush (v := (96 : Int32)) C dX11_spreads_181 rfl ?_
    refine r_icmp_ge C 206 dX11_spreads_183 (by decide)  (fun h52 => ?_) (fun h52 => ?_)
    · have hF := if_t h52 hF
      refine r_lload_n C 1 2 dX11_spreads_206 rfl rfl ?_
      exact r_lreturn C dX11_spreads_207 (rt_e hF)
    · have hF := if_f h52 hF
      refine r_aload_n C 0 0 dX11_spreads_186 rfl rfl ?_
      refine r_getR (kf := 21) (d2 := (49, 0, 0)) C dX11_spreads_187 rfl rfl f_X11 (by decide) t_5_77 rfl rfl ?_
      refine r_iload C 2 dX11_spreads_190 rfl ?_
      refine r_aload_n C 0 0 dX11_spreads_192 rfl rfl ?_
      refine r_getR (kf := 22) (d2 := (50, 0, 0)) C dX11_spreads_193 rfl rfl f_X11 (by decide) t_5_78 rfl rfl ?_
      refine r_iload C 2 dX11_spreads_196 rfl ?_
      obtain ⟨h48, hF⟩ := ck_e hF
      refine r_laload C (v4.toNatClampNeg) dX11_spreads_198 rfl h48 rfl ?_
      obtain ⟨h49, hF⟩ := ck_e hF
      obtain ⟨σ50, eσ50, hF⟩ := nam_e hF
      refine r_lastore C (v4.toNatClampNeg) dX11_spreads_199 rfl h49 rfl eσ50 ?_
      obtain ⟨x51, ex51, hF⟩ := nam_e hF
      refine r_iinc (v := x51) (ls2 := [(4, vI x51), (0, vR (40, 0, 0)), (2, vL c2)]) C 2 dX11_spreads_200 rfl ex51.symm (by decide) rfl ?_
      refine r_goto C 179 dX11_spreads_203 (by decide) ?_
      refine r_drop (ls2 := [(0, vR (40, 0, 0)), (2, vL c2), (4, vI x51)]) [1, 2, 0] rfl ?_
      exact ih _ _ hF
set_option maxRecDepth 20000 in
set_option maxHeartbeats 4000000 in
theorem s_X11_spreads (G : Gx) (l : Launch) {a1 : Int32} {σ σ' : St} {r : Int64} (hF : F_X11_spreads a1 σ = some (r, σ')) : Sp G l yX11_spreads cX11_spreads 8 (some .long) (lvl 2) [vR (40, 0, 0), vI a1] σ (va_Ql (fun a b => a = r ∧ b = σ') (Wd G) (AG G)) := by
  refine Sp_of (own := RX11) (by decide) rfl (Nat.le_of_ble_eq_true rfl) ?_
  intro p e s m args below meth c C
  show Rt G p l e (lvl 2) s m args below meth c 0 0 (MQ below (va_Ql (fun a b => a = r ∧ b = σ') (Wd G) (AG G)) args s 0 0 (AG G)) 8 0 [(0, vR (40, 0, 0)), (1, vI a1)] [] σ
  unfold F_X11_spreads at hF
  refine r_lconst (v := (0 : Int64)) C dX11_spreads_0 rfl ?_
  refine r_lstore_n (ls2 := [(2, vL (0 : Int64)), (0, vR (40, 0, 0)), (1, vI a1)]) C dX11_spreads_1 2 rfl (by decide) rfl ?_
  refine r_iconst (v := (0 : Int32)) C dX11_spreads_2 rfl ?_
  refine r_istore (ls2 := [(4, vI (0 : Int32)), (2, vL (0 : Int64)), (0, vR (40, 0, 0)), (1, vI a1)]) C dX11_spreads_3 (by decide) rfl ?_
  refine r_drop (ls2 := [(0, vR (40, 0, 0)), (1, vI a1), (2, vL (0 : Int64)), (4, vI (0 : Int32))]) [2, 3, 1, 0] rfl ?_
  refine l_X11_spreads_5 C a1 (0 : Int64) _ ?_ _ _ _ hF
  · intro  σ5 hF
    refine r_iconst (v := (0 : Int32)) C dX11_spreads_26 rfl ?_
    refine r_istore (ls2 := [(4, vI (0 : Int32)), (0, vR (40, 0, 0)), (1, vI a1), (2, vL (0 : Int64))]) C dX11_spreads_27 (by decide) rfl ?_
    refine r_drop (ls2 := [(0, vR (40, 0, 0)), (1, vI a1), (2, vL (0 : Int64)), (4, vI (0 : Int32))]) [1, 2, 3, 0] rfl ?_
    refine l_X11_spreads_29 C a1 _ ?_ _ _ _ _ hF
    · intro y47 σ46 hF
      refine r_iconst (v := (0 : Int32)) C dX11_spreads_176 rfl ?_
      refine r_istore (ls2 := [(4, vI (0 : Int32)), (0, vR (40, 0, 0)), (2, vL y47)]) C dX11_spreads_177 (by decide) rfl ?_
      refine r_drop (ls2 := [(0, vR (40, 0, 0)), (2, vL y47), (4, vI (0 : Int32))]) [1, 2, 0] rfl ?_
      refine l_X11_spreads_179 C y47  _ _ _ hF
