def L_X11_feed_19 (c1 : Int64) : Nat → Int32 → St → Option (Int32 × St)
  | 0, _, _ => none
  | n + 1, v3, τ =>
  (if v3 < 0 then some (τ.1 (40, 0, 0) 8, τ) else ck (inb (τ.1 (40, 0, 0) 8) 320) (nam (uI τ (47, 0, 0) ((τ.1 (40, 0, 0) 8).toNatClampNeg) (((c1 >>> (v3.toInt64 &&& 63)) &&& (255 : Int64)).toInt32)) fun σ2 => nam (uI σ2 (40, 0, 0) 8 ((σ2.1 (40, 0, 0) 8) + (1 : Int32))) fun σ3 => nam (v3 + (-8 : Int32)) fun x4 => L_X11_feed_19 c1 n x4 σ3))
def F_X11_feed (a1 : Int64) (σ : St) : Option (Int32 × St) :=
  (if ((σ.1 (40, 0, 0) 8) + (8 : Int32)) ≤ (320 : Int32) then L_X11_feed_19 a1 FU (56 : Int32) σ  else some ((-3 : Int32), σ))
set_option maxRecDepth 20000 in
set_option maxHeartbeats 4000000 in
theorem l_X11_feed_19 {G : Gx} {p : Program} {l : Launch} {e : Env} {s : State} {m : MethodId} {args : Array Value} {below : List Frame} {meth : Method} {c : Code} (C : Cx G p s m args meth c (some .int) 4 RX11 cX11_feed) (c1 : Int64) {σ' : St} {r : Int32} : ∀ (n : Nat) (v3 : Int32) (τ : St), L_X11_feed_19 c1 n v3 τ = some (r, σ') → Rt G p l e (lvl 0) s m args below meth c 0 0 (MQ below (va_Qi (fun a b => a = r ∧ b = σ') (Wd G) (AG G)) args s 0 0 (AG G)) 4 19 [(0, vR (40, 0, 0)), (1, vL c1), (3, vI v3)] [] τ := by
  intro n
  induction n with
  | zero => intro v3 τ hF; cases hF
  | succ n ih =>
    intro v3 τ hF
    unfold L_X11_feed_19 at hF
    refine r_iload_n C 2 3 dX11_feed_19 rfl rfl ?_
    refine r_if_lt C 56 dX11_feed_20 (by decide)  (fun h5 => ?_) (fun h5 => ?_)
    · have hF := if_t h5 hF
      refine r_aload_n C 0 0 dX11_feed_56 rfl rfl ?_
      refine r_getI (kf := 8) C dX11_feed_57 rfl rfl f_X11 (by decide) t_5_64 rfl ?_
      exact r_ireturn C dX11_feed_60 (rt_e hF)
    · have hF := if_f h5 hF
      refine r_aload_n C 0 0 dX11_feed_23 rfl rfl ?_
      refine r_getR (kf := 7) (d2 := (47, 0, 0)) C dX11_feed_24 rfl rfl f_X11 (by decide) t_5_63 rfl rfl ?_
      refine r_aload_n C 0 0 dX11_feed_27 rfl rfl ?_
      refine r_getI (kf := 8) C dX11_feed_28 rfl rfl f_X11 (by decide) t_5_64 rfl ?_
      refine r_lload_n C 1 1 dX11_feed_31 rfl rfl ?_
      refine r_iload_n C 2 3 dX11_feed_32 rfl rfl ?_
      refine r_lshr C dX11_feed_33 ?_
      refine r_ldc2_w (v := (255 : Int64)) C dX11_feed_34 t_5_148 ?_
      refine r_land C dX11_feed_37 ?_
      refine r_l2i C dX11_feed_38 ?_
      obtain ⟨h1, hF⟩ := ck_e hF
      obtain ⟨σ2, eσ2, hF⟩ := nam_e hF
      refine r_iastore C ((τ.1 (40, 0, 0) 8).toNatClampNeg) dX11_feed_39 rfl h1 rfl eσ2 ?_
      refine r_aload_n C 0 0 dX11_feed_40 rfl rfl ?_
      refine r_dup_r C dX11_feed_41 ?_
      refine r_getI (kf := 8) C dX11_feed_42 rfl rfl f_X11 (by decide) t_5_64 rfl ?_
      refine r_iconst (v := (1 : Int32)) C dX11_feed_45 rfl ?_
      refine r_iadd C dX11_feed_46 ?_
      obtain ⟨σ3, eσ3, hF⟩ := nam_e hF
      refine r_put (kf := 8) (ty0 := tyX11) C dX11_feed_47 rfl rfl f_X11 tyX11_ok nmX11 (by decide) t_5_64 rfl rfl rfl rfl eσ3 ?_
      obtain ⟨x4, ex4, hF⟩ := nam_e hF
      refine r_iinc (v := x4) (ls2 := [(3, vI x4), (0, vR (40, 0, 0)), (1, vL c1)]) C 2 dX11_feed_50 rfl ex4.symm (by decide) rfl ?_
      refine r_goto C 19 dX11_feed_53 (by decide) ?_
      refine r_drop (ls2 := [(0, vR (40, 0, 0)), (1, vL c1), (3, vI x4)]) [1, 2, 0] rfl ?_
      exact ih _ _ hF
set_option maxRecDepth 20000 in
set_option maxHeartbeats 4000000 in
theorem s_X11_feed (G : Gx) (l : Launch) {a1 : Int64} {σ σ' : St} {r : Int32} (hF : F_X11_feed a1 σ = some (r, σ')) : Sp G l yX11_feed cX11_feed 4 (some .int) (lvl 0) [vR (40, 0, 0), vL a1] σ (va_Qi (fun a b => a = r ∧ b = σ') (Wd G) (AG G)) := by
  refine Sp_of (own := RX11) (by decide) rfl (Nat.le_of_ble_eq_true rfl) ?_
  intro p e s m args below meth c C
  show Rt G p l e (lvl 0) s m args below meth c 0 0 (MQ below (va_Qi (fun a b => a = r ∧ b = σ') (Wd G) (AG G)) args s 0 0 (AG G)) 4 0 [(0, vR (40, 0, 0)), (1, vL a1)] [] σ
  unfold F_X11_feed at hF
  refine r_aload_n C 0 0 dX11_feed_0 rfl rfl ?_
  refine r_getI (kf := 8) C dX11_feed_1 rfl rfl f_X11 (by decide) t_5_64 rfl ?_
  refine r_bipush (v := (8 : Int32)) C dX11_feed_4 rfl ?_
  refine r_iadd C dX11_feed_6 ?_
  refine r_sipush (v := (320 : Int32)) C dX11_feed_7 rfl ?_
  refine r_icmp_le C 16 dX11_feed_10 (by decide)  (fun h6 => ?_) (fun h6 => ?_)
  · have hF := if_t h6 hF
    refine r_bipush (v := (56 : Int32)) C dX11_feed_16 rfl ?_
    refine r_istore_n (ls2 := [(3, vI (56 : Int32)), (0, vR (40, 0, 0)), (1, vL a1)]) C dX11_feed_18 3 rfl (by decide) rfl ?_
    refine r_drop (ls2 := [(0, vR (40, 0, 0)), (1, vL a1), (3, vI (56 : Int32))]) [1, 2, 0] rfl ?_
    refine l_X11_feed_19 C a1  _ _ _ hF
  · have hF := if_f h6 hF
    refine r_bipush (v := (-3 : Int32)) C dX11_feed_13 rfl ?_
    exact r_ireturn C dX11_feed_15 (rt_e hF)
def F_X11_end (a1 : Int32) (σ : St) : Option (Int32 × St) :=
  bd (F_X11_in (a1.toInt64) (0 : Int64) ((σ.1 (40, 0, 0) 8).toInt64) σ) fun r2 σ1 => (if r2 = 0 then some ((-1 : Int32), σ1) else nam (σ1.1 (40, 0, 0) 8) fun x4 => nam (uI σ1 (40, 0, 0) 8 a1) fun σ5 => some (x4, σ5))
set_option maxRecDepth 20000 in
set_option maxHeartbeats 4000000 in
theorem s_X11_end (G : Gx) (l : Launch) {a1 : Int32} {σ σ' : St} {r : Int32} (hF : F_X11_end a1 σ = some (r, σ')) : Sp G l yX11_end cX11_end 3 (some .int) (lvl 1) [vR (40, 0, 0), vI a1] σ (va_Qi (fun a b => a = r ∧ b = σ') (Wd G) (AG G)) := by
  refine Sp_of (own := RX11) (by decide) rfl (Nat.le_of_ble_eq_true rfl) ?_
  intro p e s m args below meth c C
  show Rt G p l e (lvl 1) s m args below meth c 0 0 (MQ below (va_Qi (fun a b => a = r ∧ b = σ') (Wd G) (AG G)) args s 0 0 (AG G)) 3 0 [(0, vR (40, 0, 0)), (1, vI a1)] [] σ
  unfold F_X11_end at hF
  refine r_iload_n C 1 1 dX11_end_0 rfl rfl ?_
  refine r_i2l C dX11_end_1 ?_
  refine r_lconst (v := (0 : Int64)) C dX11_end_2 rfl ?_
  refine r_aload_n C 0 0 dX11_end_3 rfl rfl ?_
  refine r_getI (kf := 8) C dX11_end_4 rfl rfl f_X11 (by decide) t_5_64 rfl ?_
  refine r_i2l C dX11_end_7 ?_
  obtain ⟨r2, σ1, e3, hF⟩ := bd_e hF
  refine r_callS_i (as := [vL (a1.toInt64), vL (0 : Int64), vL ((σ.1 (40, 0, 0) 8).toInt64)]) (st := []) C dX11_end_8 (s_X11_in G l e3) t_5_153 t_5_154 t_1_14 t_5_155 m_X11_in ⟨Nat.le_of_ble_eq_true rfl, Nat.le_of_ble_eq_true rfl⟩ ⟨rfl, rfl⟩ ⟨Nat.zero_le _, Nat.zero_le _⟩ rfl (Nat.le_of_ble_eq_true rfl) ?_
  refine r_if_ne C 16 dX11_end_11 (by decide)  (fun h6 => ?_) (fun h6 => ?_)
  · have hF := if_f h6 hF
    refine r_aload_n C 0 0 dX11_end_16 rfl rfl ?_
    refine r_getI (kf := 8) C dX11_end_17 rfl rfl f_X11 (by decide) t_5_64 rfl ?_
    obtain ⟨x4, ex4, hF⟩ := nam_e hF
    refine r_topI ex4 ?_
    refine r_istore_n (ls2 := [(2, vI x4), (0, vR (40, 0, 0)), (1, vI a1)]) C dX11_end_20 2 rfl (by decide) rfl ?_
    refine r_aload_n C 1 0 dX11_end_21 rfl rfl ?_
    refine r_iload_n C 2 1 dX11_end_22 rfl rfl ?_
    obtain ⟨σ5, eσ5, hF⟩ := nam_e hF
    refine r_put (kf := 8) (ty0 := tyX11) C dX11_end_23 rfl rfl f_X11 tyX11_ok nmX11 (by decide) t_5_64 rfl rfl rfl rfl eσ5 ?_
    refine r_iload_n C 0 2 dX11_end_26 rfl rfl ?_
    exact r_ireturn C dX11_end_27 (rt_e hF)
  · have hF := if_t h6 hF
    refine r_iconst (v := (-1 : Int32)) C dX11_end_14 rfl ?_
    exact r_ireturn C dX11_end_15 (rt_e hF)
def F_X11_needs (a1 : Int32) (a2 : Int32) (σ : St) : Option (Unit × St) :=
  (if a1 = 0 then (if (σ.1 (40, 0, 0) 13) = 0 then nam (uI σ (40, 0, 0) 13 a2) fun σ1 => nam (uI σ1 (40, 0, 0) 14 (σ1.1 (40, 0, 0) 10)) fun σ2 => some ((), σ2) else some ((), σ)) else some ((), σ))
set_option maxRecDepth 20000 in
set_option maxHeartbeats 4000000 in
theorem s_X11_needs (G : Gx) (l : Launch) {a1 : Int32} {a2 : Int32} {σ σ' : St}  (hF : F_X11_needs a1 a2 σ = some ((), σ')) : Sp G l yX11_needs cX11_needs 3 none (lvl 0) [vR (40, 0, 0), vI a1, vI a2] σ (va_Qv (fun b => b = σ') (Wd G) (AG G)) := by
  refine Sp_of (own := RX11) (by decide) rfl (Nat.le_of_ble_eq_true rfl) ?_
  intro p e s m args below meth c C
  show Rt G p l e (lvl 0) s m args below meth c 0 0 (MQ below (va_Qv (fun b => b = σ') (Wd G) (AG G)) args s 0 0 (AG G)) 3 0 [(0, vR (40, 0, 0)), (1, vI a1), (2, vI a2)] [] σ
  unfold F_X11_needs at hF
  refine r_iload_n C 1 1 dX11_needs_0 rfl rfl ?_
  refine r_if_ne C 24 dX11_needs_1 (by decide)  (fun h4 => ?_) (fun h4 => ?_)
  · have hF := if_f h4 hF
    exact r_return C dX11_needs_24 (rv_e hF)
  · have hF := if_t h4 hF
    refine r_aload_n C 0 0 dX11_needs_4 rfl rfl ?_
    refine r_getI (kf := 13) C dX11_needs_5 rfl rfl f_X11 (by decide) t_5_69 rfl ?_
    refine r_if_ne C 24 dX11_needs_8 (by decide)  (fun h3 => ?_) (fun h3 => ?_)
    · have hF := if_f h3 hF
      exact r_return C dX11_needs_24 (rv_e hF)
    · have hF := if_t h3 hF
      refine r_aload_n C 0 0 dX11_needs_11 rfl rfl ?_
      refine r_iload_n C 2 2 dX11_needs_12 rfl rfl ?_
      obtain ⟨σ1, eσ1, hF⟩ := nam_e hF
      refine r_put (kf := 13) (ty0 := tyX11) C dX11_needs_13 rfl rfl f_X11 tyX11_ok nmX11 (by decide) t_5_69 rfl rfl rfl rfl eσ1 ?_
      refine r_aload_n C 0 0 dX11_needs_16 rfl rfl ?_
      refine r_aload_n C 0 0 dX11_needs_17 rfl rfl ?_
      refine r_getI (kf := 10) C dX11_needs_18 rfl rfl f_X11 (by decide) t_5_66 rfl ?_
      obtain ⟨σ2, eσ2, hF⟩ := nam_e hF
      refine r_put (kf := 14) (ty0 := tyX11) C dX11_needs_21 rfl rfl f_X11 tyX11_ok nmX11 (by decide) t_5_70 rfl rfl rfl rfl eσ2 ?_
      exact r_return C dX11_needs_24 (rv_e hF)
def F_X11_look (a1 : Int32) (σ : St) : Option (Int32 × St) :=
  (if (σ.1 (40, 0, 0) 8) ≤ a1 then some ((-1 : Int32), σ) else ck (inb a1 320) (some (σ.1 (47, 0, 0) (a1.toNatClampNeg), σ)))
set_option maxRecDepth 20000 in
set_option maxHeartbeats 4000000 in
theorem s_X11_look (G : Gx) (l : Launch) {a1 : Int32} {σ σ' : St} {r : Int32} (hF : F_X11_look a1 σ = some (r, σ')) : Sp G l yX11_look cX11_look 2 (some .int) (lvl 0) [vR (40, 0, 0), vI a1] σ (va_Qi (fun a b => a = r ∧ b = σ') (Wd G) (AG G)) := by
  refine Sp_of (own := RX11) (by decide) rfl (Nat.le_of_ble_eq_true rfl) ?_
  intro p e s m args below meth c C
  show Rt G p l e (lvl 0) s m args below meth c 0 0 (MQ below (va_Qi (fun a b => a = r ∧ b = σ') (Wd G) (AG G)) args s 0 0 (AG G)) 2 0 [(0, vR (40, 0, 0)), (1, vI a1)] [] σ
  unfold F_X11_look at hF
  refine r_iload_n C 1 1 dX11_look_0 rfl rfl ?_
  refine r_aload_n C 0 0 dX11_look_1 rfl rfl ?_
  refine r_getI (kf := 8) C dX11_look_2 rfl rfl f_X11 (by decide) t_5_64 rfl ?_
  refine r_icmp_ge C 17 dX11_look_5 (by decide)  (fun h2 => ?_) (fun h2 => ?_)
  · have hF := if_t h2 hF
    refine r_iconst (v := (-1 : Int32)) C dX11_look_17 rfl ?_
    exact r_ireturn C dX11_look_18 (rt_e hF)
  · have hF := if_f h2 hF
    refine r_aload_n C 0 0 dX11_look_8 rfl rfl ?_
    refine r_getR (kf := 7) (d2 := (47, 0, 0)) C dX11_look_9 rfl rfl f_X11 (by decide) t_5_63 rfl rfl ?_
    refine r_iload_n C 1 1 dX11_look_12 rfl rfl ?_
    obtain ⟨h1, hF⟩ := ck_e hF
    refine r_iaload C (a1.toNatClampNeg) dX11_look_13 rfl h1 rfl ?_
    refine r_goto C 18 dX11_look_14 (by decide) ?_
    exact r_ireturn C dX11_look_18 (rt_e hF)
def F_X11_starts (a1 : Int32) (a2 : Int32) (a3 : Int32) (a4 : Int32) (a5 : Int32) (σ : St) : Option (Int32 × St) :=
  (if ((σ.1 (40, 0, 0) 9) - (σ.1 (40, 0, 0) 10)) = a1 then bd (F_X11_look (σ.1 (40, 0, 0) 10) σ) fun r2 σ1 => (if r2 = a2 then bd (F_X11_look ((σ1.1 (40, 0, 0) 10) + (1 : Int32)) σ1) fun r5 σ4 => (if r5 = a3 then (if a1 < (3 : Int32) then (if a1 < (4 : Int32) then some ((1 : Int32), σ4) else bd (F_X11_look ((σ4.1 (40, 0, 0) 10) + (3 : Int32)) σ4) fun r8 σ7 => (if r8 = a5 then some ((1 : Int32), σ7) else some ((0 : Int32), σ7))) else bd (F_X11_look ((σ4.1 (40, 0, 0) 10) + (2 : Int32)) σ4) fun r13 σ12 => (if r13 = a4 then (if a1 < (4 : Int32) then some ((1 : Int32), σ12) else bd (F_X11_look ((σ12.1 (40, 0, 0) 10) + (3 : Int32)) σ12) fun r16 σ15 => (if r16 = a5 then some ((1 : Int32), σ15) else some ((0 : Int32), σ15))) else some ((0 : Int32), σ12))) else some ((0 : Int32), σ4)) else some ((0 : Int32), σ1)) else some ((0 : Int32), σ))
set_option maxRecDepth 20000 in
set_option maxHeartbeats 4000000 in
theorem s_X11_starts (G : Gx) (l : Launch) {a1 : Int32} {a2 : Int32} {a3 : Int32} {a4 : Int32} {a5 : Int32} {σ σ' : St} {r : Int32} (hF : F_X11_starts a1 a2 a3 a4 a5 σ = some (r, σ')) : Sp G l yX11_starts cX11_starts 6 (some .boolean) (lvl 1) [vR (40, 0, 0), vI a1, vI a2, vI a3, vI a4, vI a5] σ (va_Qi (fun a b => a = r ∧ b = σ') (Wd G) (AG G)) := by
  refine Sp_of (own := RX11) (by decide) rfl (Nat.le_of_ble_eq_true rfl) ?_
  intro p e s m args below meth c C
  show Rt G p l e (lvl 1) s m args below meth c 0 0 (MQ below (va_Qi (fun a b => a = r ∧ b = σ') (Wd G) (AG G)) args s 0 0 (AG G)) 6 0 [(0, vR (40, 0, 0)), (1, vI a1), (2, vI a2), (3, vI a3), (4, vI a4), (5, vI a5)] [] σ
  unfold F_X11_starts at hF
  refine r_aload_n C 0 0 dX11_starts_0 rfl rfl ?_
  refine r_getI (kf := 9) C dX11_starts_1 rfl rfl f_X11 (by decide) t_5_65 rfl ?_
  refine r_aload_n C 0 0 dX11_starts_4 rfl rfl ?_
  refine r_getI (kf := 10) C dX11_starts_5 rfl rfl f_X11 (by decide) t_5_66 rfl ?_
  refine r_isub C dX11_starts_8 ?_
  refine r_iload_n C 1 1 dX11_starts_9 rfl rfl ?_
  refine r_icmp_ne C 83 dX11_starts_10 (by decide)  (fun h24 => ?_) (fun h24 => ?_)
  · have hF := if_f h24 hF
    refine r_iconst (v := (0 : Int32)) C dX11_starts_83 rfl ?_
    exact r_zreturn C dX11_starts_84 (nar_z (Or.inl rfl)) (rt_e hF)
  · have hF := if_t h24 hF
    refine r_aload_n C 0 0 dX11_starts_13 rfl rfl ?_
    refine r_aload_n C 0 0 dX11_starts_14 rfl rfl ?_
    refine r_getI (kf := 10) C dX11_starts_15 rfl rfl f_X11 (by decide) t_5_66 rfl ?_
    obtain ⟨r2, σ1, e3, hF⟩ := bd_e hF
    refine r_callV_i (as := [vI (σ.1 (40, 0, 0) 10)]) (st := []) C dX11_starts_18 (s_X11_look G l e3) rfl rfl rfl t_5_164 t_5_166 t_s_24 t_1_14 t_5_167 m_X11_look ⟨Nat.le_of_ble_eq_true rfl, Nat.le_of_ble_eq_true rfl⟩ ⟨rfl, rfl⟩ ⟨Nat.zero_le _, Nat.zero_le _⟩ rfl (Nat.le_of_ble_eq_true rfl) ?_
    refine r_iload_n C 2 2 dX11_starts_21 rfl rfl ?_
    refine r_icmp_ne C 83 dX11_starts_22 (by decide)  (fun h23 => ?_) (fun h23 => ?_)
    · have hF := if_f h23 hF
      refine r_iconst (v := (0 : Int32)) C dX11_starts_83 rfl ?_
      exact r_zreturn C dX11_starts_84 (nar_z (Or.inl rfl)) (rt_e hF)
    · have hF := if_t h23 hF
      refine r_aload_n C 0 0 dX11_starts_25 rfl rfl ?_
      refine r_aload_n C 0 0 dX11_starts_26 rfl rfl ?_
      refine r_getI (kf := 10) C dX11_starts_27 rfl rfl f_X11 (by decide) t_5_66 rfl ?_
      refine r_iconst (v := (1 : Int32)) C dX11_starts_30 rfl ?_
      refine r_iadd C dX11_starts_31 ?_
      obtain ⟨r5, σ4, e6, hF⟩ := bd_e hF
      refine r_callV_i (as := [vI ((σ1.1 (40, 0, 0) 10) + (1 : Int32))]) (st := []) C dX11_starts_32 (s_X11_look G l e6) rfl rfl rfl t_5_164 t_5_166 t_s_24 t_1_14 t_5_167 m_X11_look ⟨Nat.le_of_ble_eq_true rfl, Nat.le_of_ble_eq_true rfl⟩ ⟨rfl, rfl⟩ ⟨Nat.zero_le _, Nat.zero_le _⟩ rfl (Nat.le_of_ble_eq_true rfl) ?_
      refine r_iload_n C 3 3 dX11_starts_35 rfl rfl ?_
      refine r_icmp_ne C 83 dX11_starts_36 (by decide)  (fun h22 => ?_) (fun h22 => ?_)
      · have hF := if_f h22 hF
        refine r_iconst (v := (0 : Int32)) C dX11_starts_83 rfl ?_
        exact r_zreturn C dX11_starts_84 (nar_z (Or.inl rfl)) (rt_e hF)
      · have hF := if_t h22 hF
        refine r_iload_n C 1 1 dX11_starts_39 rfl rfl ?_
        refine r_iconst (v := (3 : Int32)) C dX11_starts_40 rfl ?_
        refine r_icmp_lt C 59 dX11_starts_41 (by decide)  (fun h21 => ?_) (fun h21 => ?_)
        · have hF := if_t h21 hF
          refine r_iload_n C 1 1 dX11_starts_59 rfl rfl ?_
          refine r_iconst (v := (4 : Int32)) C dX11_starts_60 rfl ?_
          refine r_icmp_lt C 79 dX11_starts_61 (by decide)  (fun h11 => ?_) (fun h11 => ?_)
          · have hF := if_t h11 hF
            refine r_iconst (v := (1 : Int32)) C dX11_starts_79 rfl ?_
            refine r_goto C 84 dX11_starts_80 (by decide) ?_
            exact r_zreturn C dX11_starts_84 (nar_z (Or.inr rfl)) (rt_e hF)
          · have hF := if_f h11 hF
            refine r_aload_n C 0 0 dX11_starts_64 rfl rfl ?_
            refine r_aload_n C 0 0 dX11_starts_65 rfl rfl ?_
            refine r_getI (kf := 10) C dX11_starts_66 rfl rfl f_X11 (by decide) t_5_66 rfl ?_
            refine r_iconst (v := (3 : Int32)) C dX11_starts_69 rfl ?_
            refine r_iadd C dX11_starts_70 ?_
            obtain ⟨r8, σ7, e9, hF⟩ := bd_e hF
            refine r_callV_i (as := [vI ((σ4.1 (40, 0, 0) 10) + (3 : Int32))]) (st := []) C dX11_starts_71 (s_X11_look G l e9) rfl rfl rfl t_5_164 t_5_166 t_s_24 t_1_14 t_5_167 m_X11_look ⟨Nat.le_of_ble_eq_true rfl, Nat.le_of_ble_eq_true rfl⟩ ⟨rfl, rfl⟩ ⟨Nat.zero_le _, Nat.zero_le _⟩ rfl (Nat.le_of_ble_eq_true rfl) ?_
            refine r_iload C 5 dX11_starts_74 rfl ?_
            refine r_icmp_ne C 83 dX11_starts_76 (by decide)  (fun h10 => ?_) (fun h10 => ?_)
            · have hF := if_f h10 hF
              refine r_iconst (v := (0 : Int32)) C dX11_starts_83 rfl ?_
              exact r_zreturn C dX11_starts_84 (nar_z (Or.inl rfl)) (rt_e hF)
            · have hF := if_t h10 hF
              refine r_iconst (v := (1 : Int32)) C dX11_starts_79 rfl ?_
              refine r_goto C 84 dX11_starts_80 (by decide) ?_
              exact r_zreturn C dX11_starts_84 (nar_z (Or.inr rfl)) (rt_e hF)
        · have hF := if_f h21 hF
          refine r_aload_n C 0 0 dX11_starts_44 rfl rfl ?_
          refine r_aload_n C 0 0 dX11_starts_45 rfl rfl ?_
          refine r_getI (kf := 10) C dX11_starts_46 rfl rfl f_X11 (by decide) t_5_66 rfl ?_
          refine r_iconst (v := (2 : Int32)) C dX11_starts_49 rfl ?_
          refine r_iadd C dX11_starts_50 ?_
          obtain ⟨r13, σ12, e14, hF⟩ := bd_e hF
          refine r_callV_i (as := [vI ((σ4.1 (40, 0, 0) 10) + (2 : Int32))]) (st := []) C dX11_starts_51 (s_X11_look G l e14) rfl rfl rfl t_5_164 t_5_166 t_s_24 t_1_14 t_5_167 m_X11_look ⟨Nat.le_of_ble_eq_true rfl, Nat.le_of_ble_eq_true rfl⟩ ⟨rfl, rfl⟩ ⟨Nat.zero_le _, Nat.zero_le _⟩ rfl (Nat.le_of_ble_eq_true rfl) ?_
          refine r_iload C 4 dX11_starts_54 rfl ?_
          refine r_icmp_ne C 83 dX11_starts_56 (by decide)  (fun h20 => ?_) (fun h20 => ?_)
          · have hF := if_f h20 hF
            refine r_iconst (v := (0 : Int32)) C dX11_starts_83 rfl ?_
            exact r_zreturn C dX11_starts_84 (nar_z (Or.inl rfl)) (rt_e hF)
          · have hF := if_t h20 hF
            refine r_iload_n C 1 1 dX11_starts_59 rfl rfl ?_
            refine r_iconst (v := (4 : Int32)) C dX11_starts_60 rfl ?_
            refine r_icmp_lt C 79 dX11_starts_61 (by decide)  (fun h19 => ?_) (fun h19 => ?_)
            · have hF := if_t h19 hF
              refine r_iconst (v := (1 : Int32)) C dX11_starts_79 rfl ?_
              refine r_goto C 84 dX11_starts_80 (by decide) ?_
              exact r_zreturn C dX11_starts_84 (nar_z (Or.inr rfl)) (rt_e hF)
            · have hF := if_f h19 hF
              refine r_aload_n C 0 0 dX11_starts_64 rfl rfl ?_
              refine r_aload_n C 0 0 dX11_starts_65 rfl rfl ?_
              refine r_getI (kf := 10) C dX11_starts_66 rfl rfl f_X11 (by decide) t_5_66 rfl ?_
              refine r_iconst (v := (3 : Int32)) C dX11_starts_69 rfl ?_
              refine r_iadd C dX11_starts_70 ?_
              obtain ⟨r16, σ15, e17, hF⟩ := bd_e hF
              refine r_callV_i (as := [vI ((σ12.1 (40, 0, 0) 10) + (3 : Int32))]) (st := []) C dX11_starts_71 (s_X11_look G l e17) rfl rfl rfl t_5_164 t_5_166 t_s_24 t_1_14 t_5_167 m_X11_look ⟨Nat.le_of_ble_eq_true rfl, Nat.le_of_ble_eq_true rfl⟩ ⟨rfl, rfl⟩ ⟨Nat.zero_le _, Nat.zero_le _⟩ rfl (Nat.le_of_ble_eq_true rfl) ?_
              refine r_iload C 5 dX11_starts_74 rfl ?_
              refine r_icmp_ne C 83 dX11_starts_76 (by decide)  (fun h18 => ?_) (fun h18 => ?_)
              · have hF := if_f h18 hF
                refine r_iconst (v := (0 : Int32)) C dX11_starts_83 rfl ?_
                exact r_zreturn C dX11_starts_84 (nar_z (Or.inl rfl)) (rt_e hF)
              · have hF := if_t h18 hF
                refine r_iconst (v := (1 : Int32)) C dX11_starts_79 rfl ?_
                refine r_goto C 84 dX11_starts_80 (by decide) ?_
                exact r_zreturn C dX11_starts_84 (nar_z (Or.inr rfl)) (rt_e hF)
def F_X11_nameNow  (σ : St) : Option (Int32 × St) :=
  bd (F_X11_starts (3 : Int32) (114 : Int32) (111 : Int32) (119 : Int32) (0 : Int32) σ) fun r2 σ1 => (if r2 = 0 then bd (F_X11_starts (2 : Int32) (117 : Int32) (112 : Int32) (0 : Int32) (0 : Int32) σ1) fun r5 σ4 => (if r5 = 0 then bd (F_X11_starts (4 : Int32) (100 : Int32) (111 : Int32) (119 : Int32) (110 : Int32) σ4) fun r8 σ7 => (if r8 = 0 then bd (F_X11_starts (5 : Int32) (116 : Int32) (101 : Int32) (101 : Int32) (116 : Int32) σ7) fun r11 σ10 => (if r11 = 0 then bd (F_X11_starts (4 : Int32) (108 : Int32) (101 : Int32) (97 : Int32) (112 : Int32) σ10) fun r14 σ13 => (if r14 = 0 then bd (F_X11_starts (7 : Int32) (99 : Int32) (104 : Int32) (105 : Int32) (109 : Int32) σ13) fun r17 σ16 => (if r17 = 0 then bd (F_X11_starts (4 : Int32) (104 : Int32) (105 : Int32) (115 : Int32) (115 : Int32) σ16) fun r20 σ19 => (if r20 = 0 then bd (F_X11_starts (4 : Int32) (102 : Int32) (105 : Int32) (108 : Int32) (109 : Int32) σ19) fun r23 σ22 => (if r23 = 0 then bd (F_X11_starts (4 : Int32) (114 : Int32) (111 : Int32) (108 : Int32) (108 : Int32) σ22) fun r26 σ25 => (if r26 = 0 then some ((-4 : Int32), σ25) else some ((8 : Int32), σ25)) else some ((7 : Int32), σ22)) else some ((6 : Int32), σ19)) else bd (F_X11_look ((σ16.1 (40, 0, 0) 10) + (4 : Int32)) σ16) fun r32 σ31 => (if r32 = (110 : Int32) then bd (F_X11_look ((σ31.1 (40, 0, 0) 10) + (5 : Int32)) σ31) fun r47 σ46 => (if r47 = (101 : Int32) then bd (F_X11_look ((σ46.1 (40, 0, 0) 10) + (6 : Int32)) σ46) fun r62 σ61 => (if r62 = (121 : Int32) then some ((5 : Int32), σ61) else bd (F_X11_starts (4 : Int32) (104 : Int32) (105 : Int32) (115 : Int32) (115 : Int32) σ61) fun r65 σ64 => (if r65 = 0 then bd (F_X11_starts (4 : Int32) (102 : Int32) (105 : Int32) (108 : Int32) (109 : Int32) σ64) fun r68 σ67 => (if r68 = 0 then bd (F_X11_starts (4 : Int32) (114 : Int32) (111 : Int32) (108 : Int32) (108 : Int32) σ67) fun r71 σ70 => (if r71 = 0 then some ((-4 : Int32), σ70) else some ((8 : Int32), σ70)) else some ((7 : Int32), σ67)) else some ((6 : Int32), σ64))) else bd (F_X11_starts (4 : Int32) (104 : Int32) (105 : Int32) (115 : Int32) (115 : Int32) σ46) fun r50 σ49 => (if r50 = 0 then bd (F_X11_starts (4 : Int32) (102 : Int32) (105 : Int32) (108 : Int32) (109 : Int32) σ49) fun r53 σ52 => (if r53 = 0 then bd (F_X11_starts (4 : Int32) (114 : Int32) (111 : Int32) (108 : Int32) (108 : Int32) σ52) fun r56 σ55 => (if r56 = 0 then some ((-4 : Int32), σ55) else some ((8 : Int32), σ55)) else some ((7 : Int32), σ52)) else some ((6 : Int32), σ49))) else bd (F_X11_starts (4 : Int32) (104 : Int32) (105 : Int32) (115 : Int32) (115 : Int32) σ31) fun r35 σ34 => (if r35 = 0 then bd (F_X11_starts (4 : Int32) (102 : Int32) (105 : Int32) (108 : Int32) (109 : Int32) σ34) fun r38 σ37 => (if r38 = 0 then bd (F_X11_starts (4 : Int32) (114 : Int32) (111 : Int32) (108 : Int32) (108 : Int32) σ37) fun r41 σ40 => (if r41 = 0 then some ((-4 : Int32), σ40) else some ((8 : Int32), σ40)) else some ((7 : Int32), σ37)) else some ((6 : Int32), σ34)))) else some ((4 : Int32), σ13)) else bd (F_X11_look ((σ10.1 (40, 0, 0) 10) + (4 : Int32)) σ10) fun r82 σ81 => (if r82 = (104 : Int32) then some ((2 : Int32), σ81) else bd (F_X11_starts (4 : Int32) (108 : Int32) (101 : Int32) (97 : Int32) (112 : Int32) σ81) fun r85 σ84 => (if r85 = 0 then bd (F_X11_starts (7 : Int32) (99 : Int32) (104 : Int32) (105 : Int32) (109 : Int32) σ84) fun r88 σ87 => (if r88 = 0 then bd (F_X11_starts (4 : Int32) (104 : Int32) (105 : Int32) (115 : Int32) (115 : Int32) σ87) fun r91 σ90 => (if r91 = 0 then bd (F_X11_starts (4 : Int32) (102 : Int32) (105 : Int32) (108 : Int32) (109 : Int32) σ90) fun r94 σ93 => (if r94 = 0 then bd (F_X11_starts (4 : Int32) (114 : Int32) (111 : Int32) (108 : Int32) (108 : Int32) σ93) fun r97 σ96 => (if r97 = 0 then some ((-4 : Int32), σ96) else some ((8 : Int32), σ96)) else some ((7 : Int32), σ93)) else some ((6 : Int32), σ90)) else bd (F_X11_look ((σ87.1 (40, 0, 0) 10) + (4 : Int32)) σ87) fun r103 σ102 => (if r103 = (110 : Int32) then bd (F_X11_look ((σ102.1 (40, 0, 0) 10) + (5 : Int32)) σ102) fun r118 σ117 => (if r118 = (101 : Int32) then bd (F_X11_look ((σ117.1 (40, 0, 0) 10) + (6 : Int32)) σ117) fun r133 σ132 => (if r133 = (121 : Int32) then some ((5 : Int32), σ132) else bd (F_X11_starts (4 : Int32) (104 : Int32) (105 : Int32) (115 : Int32) (115 : Int32) σ132) fun r136 σ135 => (if r136 = 0 then bd (F_X11_starts (4 : Int32) (102 : Int32) (105 : Int32) (108 : Int32) (109 : Int32) σ135) fun r139 σ138 => (if r139 = 0 then bd (F_X11_starts (4 : Int32) (114 : Int32) (111 : Int32) (108 : Int32) (108 : Int32) σ138) fun r142 σ141 => (if r142 = 0 then some ((-4 : Int32), σ141) else some ((8 : Int32), σ141)) else some ((7 : Int32), σ138)) else some ((6 : Int32), σ135))) else bd (F_X11_starts (4 : Int32) (104 : Int32) (105 : Int32) (115 : Int32) (115 : Int32) σ117) fun r121 σ120 => (if r121 = 0 then bd (F_X11_starts (4 : Int32) (102 : Int32) (105 : Int32) (108 : Int32) (109 : Int32) σ120) fun r124 σ123 => (if r124 = 0 then bd (F_X11_starts (4 : Int32) (114 : Int32) (111 : Int32) (108 : Int32) (108 : Int32) σ123) fun r127 σ126 => (if r127 = 0 then some ((-4 : Int32), σ126) else some ((8 : Int32), σ126)) else some ((7 : Int32), σ123)) else some ((6 : Int32), σ120))) else bd (F_X11_starts (4 : Int32) (104 : Int32) (105 : Int32) (115 : Int32) (115 : Int32) σ102) fun r106 σ105 => (if r106 = 0 then bd (F_X11_starts (4 : Int32) (102 : Int32) (105 : Int32) (108 : Int32) (109 : Int32) σ105) fun r109 σ108 => (if r109 = 0 then bd (F_X11_starts (4 : Int32) (114 : Int32) (111 : Int32) (108 : Int32) (108 : Int32) σ108) fun r112 σ111 => (if r112 = 0 then some ((-4 : Int32), σ111) else some ((8 : Int32), σ111)) else some ((7 : Int32), σ108)) else some ((6 : Int32), σ105)))) else some ((4 : Int32), σ84)))) else some ((1 : Int32), σ7)) else some ((0 : Int32), σ4)) else some ((20 : Int32), σ1))
set_option maxRecDepth 20000 in
set_option maxHeartbeats 4000000 in
theorem s_X11_nameNow (G : Gx) (l : Launch)  {σ σ' : St} {r : Int32} (hF : F_X11_nameNow  σ = some (r, σ')) : Sp G l yX11_nameNow cX11_nameNow 1 (some .int) (lvl 2) [vR (40, 0, 0)] σ (va_Qi (fun a b => a = r ∧ b = σ') (Wd G) (AG G)) := by
  refine Sp_of (own := RX11) (by decide) rfl (Nat.le_of_ble_eq_true rfl) ?_
  intro p e s m args below meth c C
  show Rt G p l e (lvl 2) s m args below meth c 0 0 (MQ below (va_Qi (fun a b => a = r ∧ b = σ') (Wd G) (AG G)) args s 0 0 (AG G)) 1 0 [(0, vR (40, 0, 0))] [] σ
  unfold F_X11_nameNow at hF
  refine r_aload_n C 0 0 dX11_nameNow_0 rfl rfl ?_
  refine r_iconst (v := (3 : Int32)) C dX11_nameNow_1 rfl ?_
  refine r_bipush (v := (114 : Int32)) C dX11_nameNow_2 rfl ?_
  refine r_bipush (v := (111 : Int32)) C dX11_nameNow_4 rfl ?_
  refine r_bipush (v := (119 : Int32)) C dX11_nameNow_6 rfl ?_
  refine r_iconst (v := (0 : Int32)) C dX11_nameNow_8 rfl ?_
  obtain ⟨r2, σ1, e3, hF⟩ := bd_e hF
  refine r_callV_i (as := [vI (3 : Int32), vI (114 : Int32), vI (111 : Int32), vI (119 : Int32), vI (0 : Int32)]) (st := []) C dX11_nameNow_9 (s_X11_starts G l e3) rfl rfl rfl t_5_184 t_5_186 t_s_28 t_1_14 t_5_187 m_X11_starts ⟨Nat.le_of_ble_eq_true rfl, Nat.le_of_ble_eq_true rfl⟩ ⟨rfl, rfl⟩ ⟨Nat.zero_le _, Nat.zero_le _⟩ rfl (Nat.le_of_ble_eq_true rfl) ?_
  refine r_if_eq C 18 dX11_nameNow_12 (by decide)  (fun h156 => ?_) (fun h156 => ?_)
  · have hF := if_t h156 hF
    refine r_aload_n C 0 0 dX11_nameNow_18 rfl rfl ?_
    refine r_iconst (v := (2 : Int32)) C dX11_nameNow_19 rfl ?_
    refine r_bipush (v := (117 : Int32)) C dX11_nameNow_20 rfl ?_
    refine r_bipush (v := (112 : Int32)) C dX11_nameNow_22 rfl ?_
    refine r_iconst (v := (0 : Int32)) C dX11_nameNow_24 rfl ?_
    refine r_iconst (v := (0 : Int32)) C dX11_nameNow_25 rfl ?_
    obtain ⟨r5, σ4, e6, hF⟩ := bd_e hF
    refine r_callV_i (as := [vI (2 : Int32), vI (117 : Int32), vI (112 : Int32), vI (0 : Int32), vI (0 : Int32)]) (st := []) C dX11_nameNow_26 (s_X11_starts G l e6) rfl rfl rfl t_5_184 t_5_186 t_s_28 t_1_14 t_5_187 m_X11_starts ⟨Nat.le_of_ble_eq_true rfl, Nat.le_of_ble_eq_true rfl⟩ ⟨rfl, rfl⟩ ⟨Nat.zero_le _, Nat.zero_le _⟩ rfl (Nat.le_of_ble_eq_true rfl) ?_
    refine r_if_eq C 34 dX11_nameNow_29 (by decide)  (fun h155 => ?_) (fun h155 => ?_)
    · have hF := if_t h155 hF
      refine r_aload_n C 0 0 dX11_nameNow_34 rfl rfl ?_
      refine r_iconst (v := (4 : Int32)) C dX11_nameNow_35 rfl ?_
      refine r_bipush (v := (100 : Int32)) C dX11_nameNow_36 rfl ?_
      refine r_bipush (v := (111 : Int32)) C dX11_nameNow_38 rfl ?_
      refine r_bipush (v := (119 : Int32)) C dX11_nameNow_40 rfl ?_
      refine r_bipush (v := (110 : Int32)) C dX11_nameNow_42 rfl ?_
      obtain ⟨r8, σ7, e9, hF⟩ := bd_e hF
      refine r_callV_i (as := [vI (4 : Int32), vI (100 : Int32), vI (111 : Int32), vI (119 : Int32), vI (110 : Int32)]) (st := []) C dX11_nameNow_44 (s_X11_starts G l e9) rfl rfl rfl t_5_184 t_5_186 t_s_28 t_1_14 t_5_187 m_X11_starts ⟨Nat.le_of_ble_eq_true rfl, Nat.le_of_ble_eq_true rfl⟩ ⟨rfl, rfl⟩ ⟨Nat.zero_le _, Nat.zero_le _⟩ rfl (Nat.le_of_ble_eq_true rfl) ?_
      refine r_if_eq C 52 dX11_nameNow_47 (by decide)  (fun h154 => ?_) (fun h154 => ?_)
      · have hF := if_t h154 hF
        refine r_aload_n C 0 0 dX11_nameNow_52 rfl rfl ?_
        refine r_iconst (v := (5 : Int32)) C dX11_nameNow_53 rfl ?_
        refine r_bipush (v := (116 : Int32)) C dX11_nameNow_54 rfl ?_
        refine r_bipush (v := (101 : Int32)) C dX11_nameNow_56 rfl ?_
        refine r_bipush (v := (101 : Int32)) C dX11_nameNow_58 rfl ?_
        refine r_bipush (v := (116 : Int32)) C dX11_nameNow_60 rfl ?_
        obtain ⟨r11, σ10, e12, hF⟩ := bd_e hF
        refine r_callV_i (as := [vI (5 : Int32), vI (116 : Int32), vI (101 : Int32), vI (101 : Int32), vI (116 : Int32)]) (st := []) C dX11_nameNow_62 (s_X11_starts G l e12) rfl rfl rfl t_5_184 t_5_186 t_s_28 t_1_14 t_5_187 m_X11_starts ⟨Nat.le_of_ble_eq_true rfl, Nat.le_of_ble_eq_true rfl⟩ ⟨rfl, rfl⟩ ⟨Nat.zero_le _, Nat.zero_le _⟩ rfl (Nat.le_of_ble_eq_true rfl) ?_
        refine r_if_eq C 85 dX11_nameNow_65 (by decide)  (fun h153 => ?_) (fun h153 => ?_)
        · have hF := if_t h153 hF
          refine r_aload_n C 0 0 dX11_nameNow_85 rfl rfl ?_
          refine r_iconst (v := (4 : Int32)) C dX11_nameNow_86 rfl ?_
          refine r_bipush (v := (108 : Int32)) C dX11_nameNow_87 rfl ?_
          refine r_bipush (v := (101 : Int32)) C dX11_nameNow_89 rfl ?_
          refine r_bipush (v := (97 : Int32)) C dX11_nameNow_91 rfl ?_
          refine r_bipush (v := (112 : Int32)) C dX11_nameNow_93 rfl ?_
          obtain ⟨r14, σ13, e15, hF⟩ := bd_e hF
          refine r_callV_i (as := [vI (4 : Int32), vI (108 : Int32), vI (101 : Int32), vI (97 : Int32), vI (112 : Int32)]) (st := []) C dX11_nameNow_95 (s_X11_starts G l e15) rfl rfl rfl t_5_184 t_5_186 t_s_28 t_1_14 t_5_187 m_X11_starts ⟨Nat.le_of_ble_eq_true rfl, Nat.le_of_ble_eq_true rfl⟩ ⟨rfl, rfl⟩ ⟨Nat.zero_le _, Nat.zero_le _⟩ rfl (Nat.le_of_ble_eq_true rfl) ?_
          refine r_if_eq C 103 dX11_nameNow_98 (by decide)  (fun h80 => ?_) (fun h80 => ?_)
          · have hF := if_t h80 hF
            refine r_aload_n C 0 0 dX11_nameNow_103 rfl rfl ?_
            refine r_bipush (v := (7 : Int32)) C dX11_nameNow_104 rfl ?_
            refine r_bipush (v := (99 : Int32)) C dX11_nameNow_106 rfl ?_
            refine r_bipush (v := (104 : Int32)) C dX11_nameNow_108 rfl ?_
            refine r_bipush (v := (105 : Int32)) C dX11_nameNow_110 rfl ?_
            refine r_bipush (v := (109 : Int32)) C dX11_nameNow_112 rfl ?_
            obtain ⟨r17, σ16, e18, hF⟩ := bd_e hF
            refine r_callV_i (as := [vI (7 : Int32), vI (99 : Int32), vI (104 : Int32), vI (105 : Int32), vI (109 : Int32)]) (st := []) C dX11_nameNow_114 (s_X11_starts G l e18) rfl rfl rfl t_5_184 t_5_186 t_s_28 t_1_14 t_5_187 m_X11_starts ⟨Nat.le_of_ble_eq_true rfl, Nat.le_of_ble_eq_true rfl⟩ ⟨rfl, rfl⟩ ⟨Nat.zero_le _, Nat.zero_le _⟩ rfl (Nat.le_of_ble_eq_true rfl) ?_
            refine r_if_eq C 168 dX11_nameNow_117 (by decide)  (fun h79 => ?_) (fun h79 => ?_)
            · have hF := if_t h79 hF
              refine r_aload_n C 0 0 dX11_nameNow_168 rfl rfl ?_
              refine r_iconst (v := (4 : Int32)) C dX11_nameNow_169 rfl ?_
              refine r_bipush (v := (104 : Int32)) C dX11_nameNow_170 rfl ?_
              refine r_bipush (v := (105 : Int32)) C dX11_nameNow_172 rfl ?_
              refine r_bipush (v := (115 : Int32)) C dX11_nameNow_174 rfl ?_
              refine r_bipush (v := (115 : Int32)) C dX11_nameNow_176 rfl ?_
              obtain ⟨r20, σ19, e21, hF⟩ := bd_e hF
              refine r_callV_i (as := [vI (4 : Int32), vI (104 : Int32), vI (105 : Int32), vI (115 : Int32), vI (115 : Int32)]) (st := []) C dX11_nameNow_178 (s_X11_starts G l e21) rfl rfl rfl t_5_184 t_5_186 t_s_28 t_1_14 t_5_187 m_X11_starts ⟨Nat.le_of_ble_eq_true rfl, Nat.le_of_ble_eq_true rfl⟩ ⟨rfl, rfl⟩ ⟨Nat.zero_le _, Nat.zero_le _⟩ rfl (Nat.le_of_ble_eq_true rfl) ?_
              refine r_if_eq C 187 dX11_nameNow_181 (by decide)  (fun h30 => ?_) (fun h30 => ?_)
              · have hF := if_t h30 hF
                refine r_aload_n C 0 0 dX11_nameNow_187 rfl rfl ?_
                refine r_iconst (v := (4 : Int32)) C dX11_nameNow_188 rfl ?_
                refine r_bipush (v := (102 : Int32)) C dX11_nameNow_189 rfl ?_
                refine r_bipush (v := (105 : Int32)) C dX11_nameNow_191 rfl ?_
                refine r_bipush (v := (108 : Int32)) C dX11_nameNow_193 rfl ?_
                refine r_bipush (v := (109 : Int32)) C dX11_nameNow_195 rfl ?_
                obtain ⟨r23, σ22, e24, hF⟩ := bd_e hF
                refine r_callV_i (as := [vI (4 : Int32), vI (102 : Int32), vI (105 : Int32), vI (108 : Int32), vI (109 : Int32)]) (st := []) C dX11_nameNow_197 (s_X11_starts G l e24) rfl rfl rfl t_5_184 t_5_186 t_s_28 t_1_14 t_5_187 m_X11_starts ⟨Nat.le_of_ble_eq_true rfl, Nat.le_of_ble_eq_true rfl⟩ ⟨rfl, rfl⟩ ⟨Nat.zero_le _, Nat.zero_le _⟩ rfl (Nat.le_of_ble_eq_true rfl) ?_
                refine r_if_eq C 208 dX11_nameNow_200 (by decide)  (fun h29 => ?_) (fun h29 => ?_)
                · have hF := if_t h29 hF
                  refine r_aload_n C 0 0 dX11_nameNow_208 rfl rfl ?_
                  refine r_iconst (v := (4 : Int32)) C dX11_nameNow_209 rfl ?_
                  refine r_bipush (v := (114 : Int32)) C dX11_nameNow_210 rfl ?_
                  refine r_bipush (v := (111 : Int32)) C dX11_nameNow_212 rfl ?_
                  refine r_bipush (v := (108 : Int32)) C dX11_nameNow_214 rfl ?_
                  refine r_bipush (v := (108 : Int32)) C dX11_nameNow_216 rfl ?_
                  obtain ⟨r26, σ25, e27, hF⟩ := bd_e hF
                  refine r_callV_i (as := [vI (4 : Int32), vI (114 : Int32), vI (111 : Int32), vI (108 : Int32), vI (108 : Int32)]) (st := []) C dX11_nameNow_218 (s_X11_starts G l e27) rfl rfl rfl t_5_184 t_5_186 t_s_28 t_1_14 t_5_187 m_X11_starts ⟨Nat.le_of_ble_eq_true rfl, Nat.le_of_ble_eq_true rfl⟩ ⟨rfl, rfl⟩ ⟨Nat.zero_le _, Nat.zero_le _⟩ rfl (Nat.le_of_ble_eq_true rfl) ?_
                  refine r_if_eq C 229 dX11_nameNow_221 (by decide)  (fun h28 => ?_) (fun h28 => ?_)
                  · have hF := if_t h28 hF
                    refine r_bipush (v := (-4 : Int32)) C dX11_nameNow_229 rfl ?_
                    exact r_ireturn C dX11_nameNow_231 (rt_e hF)
                  · have hF := if_f h28 hF
                    refine r_bipush (v := (8 : Int32)) C dX11_nameNow_224 rfl ?_
                    refine r_goto C 231 dX11_nameNow_226 (by decide) ?_
                    exact r_ireturn C dX11_nameNow_231 (rt_e hF)
                · have hF := if_f h29 hF
                  refine r_bipush (v := (7 : Int32)) C dX11_nameNow_203 rfl ?_
                  refine r_goto C 231 dX11_nameNow_205 (by decide) ?_
                  exact r_ireturn C dX11_nameNow_231 (rt_e hF)
              · have hF := if_f h30 hF
                refine r_bipush (v := (6 : Int32)) C dX11_nameNow_184 rfl ?_
                exact r_ireturn C dX11_nameNow_186 (rt_e hF)
            · have hF := if_f h79 hF
              refine r_aload_n C 0 0 dX11_nameNow_120 rfl rfl ?_
              refine r_aload_n C 0 0 dX11_nameNow_121 rfl rfl ?_
              refine r_getI (kf := 10) C dX11_nameNow_122 rfl rfl f_X11 (by decide) t_5_66 rfl ?_
              refine r_iconst (v := (4 : Int32)) C dX11_nameNow_125 rfl ?_
              refine r_iadd C dX11_nameNow_126 ?_
              obtain ⟨r32, σ31, e33, hF⟩ := bd_e hF
              refine r_callV_i (as := [vI ((σ16.1 (40, 0, 0) 10) + (4 : Int32))]) (st := []) C dX11_nameNow_127 (s_X11_look G l e33) rfl rfl rfl t_5_164 t_5_166 t_s_24 t_1_14 t_5_167 m_X11_look ⟨Nat.le_of_ble_eq_true rfl, Nat.le_of_ble_eq_true rfl⟩ ⟨rfl, rfl⟩ ⟨Nat.zero_le _, Nat.zero_le _⟩ rfl (Nat.le_of_ble_eq_true rfl) ?_
              refine r_bipush (v := (110 : Int32)) C dX11_nameNow_130 rfl ?_
              refine r_icmp_ne C 168 dX11_nameNow_132 (by decide)  (fun h78 => ?_) (fun h78 => ?_)
              · have hF := if_f h78 hF
                refine r_aload_n C 0 0 dX11_nameNow_168 rfl rfl ?_
                refine r_iconst (v := (4 : Int32)) C dX11_nameNow_169 rfl ?_
                refine r_bipush (v := (104 : Int32)) C dX11_nameNow_170 rfl ?_
                refine r_bipush (v := (105 : Int32)) C dX11_nameNow_172 rfl ?_
                refine r_bipush (v := (115 : Int32)) C dX11_nameNow_174 rfl ?_
                refine r_bipush (v := (115 : Int32)) C dX11_nameNow_176 rfl ?_
                obtain ⟨r35, σ34, e36, hF⟩ := bd_e hF
                refine r_callV_i (as := [vI (4 : Int32), vI (104 : Int32), vI (105 : Int32), vI (115 : Int32), vI (115 : Int32)]) (st := []) C dX11_nameNow_178 (s_X11_starts G l e36) rfl rfl rfl t_5_184 t_5_186 t_s_28 t_1_14 t_5_187 m_X11_starts ⟨Nat.le_of_ble_eq_true rfl, Nat.le_of_ble_eq_true rfl⟩ ⟨rfl, rfl⟩ ⟨Nat.zero_le _, Nat.zero_le _⟩ rfl (Nat.le_of_ble_eq_true rfl) ?_
                refine r_if_eq C 187 dX11_nameNow_181 (by decide)  (fun h45 => ?_) (fun h45 => ?_)
                · have hF := if_t h45 hF
                  refine r_aload_n C 0 0 dX11_nameNow_187 rfl rfl ?_
                  refine r_iconst (v := (4 : Int32)) C dX11_nameNow_188 rfl ?_
                  refine r_bipush (v := (102 : Int32)) C dX11_nameNow_189 rfl ?_
                  refine r_bipush (v := (105 : Int32)) C dX11_nameNow_191 rfl ?_
                  refine r_bipush (v := (108 : Int32)) C dX11_nameNow_193 rfl ?_
                  refine r_bipush (v := (109 : Int32)) C dX11_nameNow_195 rfl ?_
                  obtain ⟨r38, σ37, e39, hF⟩ := bd_e hF
                  refine r_callV_i (as := [vI (4 : Int32), vI (102 : Int32), vI (105 : Int32), vI (108 : Int32), vI (109 : Int32)]) (st := []) C dX11_nameNow_197 (s_X11_starts G l e39) rfl rfl rfl t_5_184 t_5_186 t_s_28 t_1_14 t_5_187 m_X11_starts ⟨Nat.le_of_ble_eq_true rfl, Nat.le_of_ble_eq_true rfl⟩ ⟨rfl, rfl⟩ ⟨Nat.zero_le _, Nat.zero_le _⟩ rfl (Nat.le_of_ble_eq_true rfl) ?_
                  refine r_if_eq C 208 dX11_nameNow_200 (by decide)  (fun h44 => ?_) (fun h44 => ?_)
                  · have hF := if_t h44 hF
                    refine r_aload_n C 0 0 dX11_nameNow_208 rfl rfl ?_
                    refine r_iconst (v := (4 : Int32)) C dX11_nameNow_209 rfl ?_
                    refine r_bipush (v := (114 : Int32)) C dX11_nameNow_210 rfl ?_
                    refine r_bipush (v := (111 : Int32)) C dX11_nameNow_212 rfl ?_
                    refine r_bipush (v := (108 : Int32)) C dX11_nameNow_214 rfl ?_
                    refine r_bipush (v := (108 : Int32)) C dX11_nameNow_216 rfl ?_
                    obtain ⟨r41, σ40, e42, hF⟩ := bd_e hF
                    refine r_callV_i (as := [vI (4 : Int32), vI (114 : Int32), vI (111 : Int32), vI (108 : Int32), vI (108 : Int32)]) (st := []) C dX11_nameNow_218 (s_X11_starts G l e42) rfl rfl rfl t_5_184 t_5_186 t_s_28 t_1_14 t_5_187 m_X11_starts ⟨Nat.le_of_ble_eq_true rfl, Nat.le_of_ble_eq_true rfl⟩ ⟨rfl, rfl⟩ ⟨Nat.zero_le _, Nat.zero_le _⟩ rfl (Nat.le_of_ble_eq_true rfl) ?_
                    refine r_if_eq C 229 dX11_nameNow_221 (by decide)  (fun h43 => ?_) (fun h43 => ?_)
                    · have hF := if_t h43 hF
                      refine r_bipush (v := (-4 : Int32)) C dX11_nameNow_229 rfl ?_
                      exact r_ireturn C dX11_nameNow_231 (rt_e hF)
                    · have hF := if_f h43 hF
                      refine r_bipush (v := (8 : Int32)) C dX11_nameNow_224 rfl ?_
                      refine r_goto C 231 dX11_nameNow_226 (by decide) ?_
                      exact r_ireturn C dX11_nameNow_231 (rt_e hF)
                  · have hF := if_f h44 hF
                    refine r_bipush (v := (7 : Int32)) C dX11_nameNow_203 rfl ?_
                    refine r_goto C 231 dX11_nameNow_205 (by decide) ?_
                    exact r_ireturn C dX11_nameNow_231 (rt_e hF)
                · have hF := if_f h45 hF
                  refine r_bipush (v := (6 : Int32)) C dX11_nameNow_184 rfl ?_
                  exact r_ireturn C dX11_nameNow_186 (rt_e hF)
              · have hF := if_t h78 hF
                refine r_aload_n C 0 0 dX11_nameNow_135 rfl rfl ?_
                refine r_aload_n C 0 0 dX11_nameNow_136 rfl rfl ?_
                refine r_getI (kf := 10) C dX11_nameNow_137 rfl rfl f_X11 (by decide) t_5_66 rfl ?_
                refine r_iconst (v := (5 : Int32)) C dX11_nameNow_140 rfl ?_
                refine r_iadd C dX11_nameNow_141 ?_
                obtain ⟨r47, σ46, e48, hF⟩ := bd_e hF
                refine r_callV_i (as := [vI ((σ31.1 (40, 0, 0) 10) + (5 : Int32))]) (st := []) C dX11_nameNow_142 (s_X11_look G l e48) rfl rfl rfl t_5_164 t_5_166 t_s_24 t_1_14 t_5_167 m_X11_look ⟨Nat.le_of_ble_eq_true rfl, Nat.le_of_ble_eq_true rfl⟩ ⟨rfl, rfl⟩ ⟨Nat.zero_le _, Nat.zero_le _⟩ rfl (Nat.le_of_ble_eq_true rfl) ?_
                refine r_bipush (v := (101 : Int32)) C dX11_nameNow_145 rfl ?_
                refine r_icmp_ne C 168 dX11_nameNow_147 (by decide)  (fun h77 => ?_) (fun h77 => ?_)
                · have hF := if_f h77 hF
                  refine r_aload_n C 0 0 dX11_nameNow_168 rfl rfl ?_
                  refine r_iconst (v := (4 : Int32)) C dX11_nameNow_169 rfl ?_
                  refine r_bipush (v := (104 : Int32)) C dX11_nameNow_170 rfl ?_
                  refine r_bipush (v := (105 : Int32)) C dX11_nameNow_172 rfl ?_
                  refine r_bipush (v := (115 : Int32)) C dX11_nameNow_174 rfl ?_
                  refine r_bipush (v := (115 : Int32)) C dX11_nameNow_176 rfl ?_
                  obtain ⟨r50, σ49, e51, hF⟩ := bd_e hF
                  refine r_callV_i (as := [vI (4 : Int32), vI (104 : Int32), vI (105 : Int32), vI (115 : Int32), vI (115 : Int32)]) (st := []) C dX11_nameNow_178 (s_X11_starts G l e51) rfl rfl rfl t_5_184 t_5_186 t_s_28 t_1_14 t_5_187 m_X11_starts ⟨Nat.le_of_ble_eq_true rfl, Nat.le_of_ble_eq_true rfl⟩ ⟨rfl, rfl⟩ ⟨Nat.zero_le _, Nat.zero_le _⟩ rfl (Nat.le_of_ble_eq_true rfl) ?_
                  refine r_if_eq C 187 dX11_nameNow_181 (by decide)  (fun h60 => ?_) (fun h60 => ?_)
                  · have hF := if_t h60 hF
                    refine r_aload_n C 0 0 dX11_nameNow_187 rfl rfl ?_
                    refine r_iconst (v := (4 : Int32)) C dX11_nameNow_188 rfl ?_
                    refine r_bipush (v := (102 : Int32)) C dX11_nameNow_189 rfl ?_
                    refine r_bipush (v := (105 : Int32)) C dX11_nameNow_191 rfl ?_
                    refine r_bipush (v := (108 : Int32)) C dX11_nameNow_193 rfl ?_
                    refine r_bipush (v := (109 : Int32)) C dX11_nameNow_195 rfl ?_
                    obtain ⟨r53, σ52, e54, hF⟩ := bd_e hF
                    refine r_callV_i (as := [vI (4 : Int32), vI (102 : Int32), vI (105 : Int32), vI (108 : Int32), vI (109 : Int32)]) (st := []) C dX11_nameNow_197 (s_X11_starts G l e54) rfl rfl rfl t_5_184 t_5_186 t_s_28 t_1_14 t_5_187 m_X11_starts ⟨Nat.le_of_ble_eq_true rfl, Nat.le_of_ble_eq_true rfl⟩ ⟨rfl, rfl⟩ ⟨Nat.zero_le _, Nat.zero_le _⟩ rfl (Nat.le_of_ble_eq_true rfl) ?_
                    refine r_if_eq C 208 dX11_nameNow_200 (by decide)  (fun h59 => ?_) (fun h59 => ?_)
                    · have hF := if_t h59 hF
                      refine r_aload_n C 0 0 dX11_nameNow_208 rfl rfl ?_
                      refine r_iconst (v := (4 : Int32)) C dX11_nameNow_209 rfl ?_
                      refine r_bipush (v := (114 : Int32)) C dX11_nameNow_210 rfl ?_
                      refine r_bipush (v := (111 : Int32)) C dX11_nameNow_212 rfl ?_
                      refine r_bipush (v := (108 : Int32)) C dX11_nameNow_214 rfl ?_
                      refine r_bipush (v := (108 : Int32)) C dX11_nameNow_216 rfl ?_
                      obtain ⟨r56, σ55, e57, hF⟩ := bd_e hF
                      refine r_callV_i (as := [vI (4 : Int32), vI (114 : Int32), vI (111 : Int32), vI (108 : Int32), vI (108 : Int32)]) (st := []) C dX11_nameNow_218 (s_X11_starts G l e57) rfl rfl rfl t_5_184 t_5_186 t_s_28 t_1_14 t_5_187 m_X11_starts ⟨Nat.le_of_ble_eq_true rfl, Nat.le_of_ble_eq_true rfl⟩ ⟨rfl, rfl⟩ ⟨Nat.zero_le _, Nat.zero_le _⟩ rfl (Nat.le_of_ble_eq_true rfl) ?_
                      refine r_if_eq C 229 dX11_nameNow_221 (by decide)  (fun h58 => ?_) (fun h58 => ?_)
                      · have hF := if_t h58 hF
                        refine r_bipush (v := (-4 : Int32)) C dX11_nameNow_229 rfl ?_
                        exact r_ireturn C dX11_nameNow_231 (rt_e hF)
                      · have hF := if_f h58 hF
                        refine r_bipush (v := (8 : Int32)) C dX11_nameNow_224 rfl ?_
                        refine r_goto C 231 dX11_nameNow_226 (by decide) ?_
                        exact r_ireturn C dX11_nameNow_231 (rt_e hF)
                    · have hF := if_f h59 hF
                      refine r_bipush (v := (7 : Int32)) C dX11_nameNow_203 rfl ?_
                      refine r_goto C 231 dX11_nameNow_205 (by decide) ?_
                      exact r_ireturn C dX11_nameNow_231 (rt_e hF)
                  · have hF := if_f h60 hF
                    refine r_bipush (v := (6 : Int32)) C dX11_nameNow_184 rfl ?_
                    exact r_ireturn C dX11_nameNow_186 (rt_e hF)
                · have hF := if_t h77 hF
                  refine r_aload_n C 0 0 dX11_nameNow_150 rfl rfl ?_
                  refine r_aload_n C 0 0 dX11_nameNow_151 rfl rfl ?_
                  refine r_getI (kf := 10) C dX11_nameNow_152 rfl rfl f_X11 (by decide) t_5_66 rfl ?_
                  refine r_bipush (v := (6 : Int32)) C dX11_nameNow_155 rfl ?_
                  refine r_iadd C dX11_nameNow_157 ?_
                  obtain ⟨r62, σ61, e63, hF⟩ := bd_e hF
                  refine r_callV_i (as := [vI ((σ46.1 (40, 0, 0) 10) + (6 : Int32))]) (st := []) C dX11_nameNow_158 (s_X11_look G l e63) rfl rfl rfl t_5_164 t_5_166 t_s_24 t_1_14 t_5_167 m_X11_look ⟨Nat.le_of_ble_eq_true rfl, Nat.le_of_ble_eq_true rfl⟩ ⟨rfl, rfl⟩ ⟨Nat.zero_le _, Nat.zero_le _⟩ rfl (Nat.le_of_ble_eq_true rfl) ?_
                  refine r_bipush (v := (121 : Int32)) C dX11_nameNow_161 rfl ?_
                  refine r_icmp_ne C 168 dX11_nameNow_163 (by decide)  (fun h76 => ?_) (fun h76 => ?_)
                  · have hF := if_f h76 hF
                    refine r_aload_n C 0 0 dX11_nameNow_168 rfl rfl ?_
                    refine r_iconst (v := (4 : Int32)) C dX11_nameNow_169 rfl ?_
                    refine r_bipush (v := (104 : Int32)) C dX11_nameNow_170 rfl ?_
                    refine r_bipush (v := (105 : Int32)) C dX11_nameNow_172 rfl ?_
                    refine r_bipush (v := (115 : Int32)) C dX11_nameNow_174 rfl ?_
                    refine r_bipush (v := (115 : Int32)) C dX11_nameNow_176 rfl ?_
                    obtain ⟨r65, σ64, e66, hF⟩ := bd_e hF
                    refine r_callV_i (as := [vI (4 : Int32), vI (104 : Int32), vI (105 : Int32), vI (115 : Int32), vI (115 : Int32)]) (st := []) C dX11_nameNow_178 (s_X11_starts G l e66) rfl rfl rfl t_5_184 t_5_186 t_s_28 t_1_14 t_5_187 m_X11_starts ⟨Nat.le_of_ble_eq_true rfl, Nat.le_of_ble_eq_true rfl⟩ ⟨rfl, rfl⟩ ⟨Nat.zero_le _, Nat.zero_le _⟩ rfl (Nat.le_of_ble_eq_true rfl) ?_
                    refine r_if_eq C 187 dX11_nameNow_181 (by decide)  (fun h75 => ?_) (fun h75 => ?_)
                    · have hF := if_t h75 hF
                      refine r_aload_n C 0 0 dX11_nameNow_187 rfl rfl ?_
                      refine r_iconst (v := (4 : Int32)) C dX11_nameNow_188 rfl ?_
                      refine r_bipush (v := (102 : Int32)) C dX11_nameNow_189 rfl ?_
                      refine r_bipush (v := (105 : Int32)) C dX11_nameNow_191 rfl ?_
                      refine r_bipush (v := (108 : Int32)) C dX11_nameNow_193 rfl ?_
                      refine r_bipush (v := (109 : Int32)) C dX11_nameNow_195 rfl ?_
                      obtain ⟨r68, σ67, e69, hF⟩ := bd_e hF
                      refine r_callV_i (as := [vI (4 : Int32), vI (102 : Int32), vI (105 : Int32), vI (108 : Int32), vI (109 : Int32)]) (st := []) C dX11_nameNow_197 (s_X11_starts G l e69) rfl rfl rfl t_5_184 t_5_186 t_s_28 t_1_14 t_5_187 m_X11_starts ⟨Nat.le_of_ble_eq_true rfl, Nat.le_of_ble_eq_true rfl⟩ ⟨rfl, rfl⟩ ⟨Nat.zero_le _, Nat.zero_le _⟩ rfl (Nat.le_of_ble_eq_true rfl) ?_
                      refine r_if_eq C 208 dX11_nameNow_200 (by decide)  (fun h74 => ?_) (fun h74 => ?_)
                      · have hF := if_t h74 hF
                        refine r_aload_n C 0 0 dX11_nameNow_208 rfl rfl ?_
                        refine r_iconst (v := (4 : Int32)) C dX11_nameNow_209 rfl ?_
                        refine r_bipush (v := (114 : Int32)) C dX11_nameNow_210 rfl ?_
                        refine r_bipush (v := (111 : Int32)) C dX11_nameNow_212 rfl ?_
                        refine r_bipush (v := (108 : Int32)) C dX11_nameNow_214 rfl ?_
                        refine r_bipush (v := (108 : Int32)) C dX11_nameNow_216 rfl ?_
                        obtain ⟨r71, σ70, e72, hF⟩ := bd_e hF
                        refine r_callV_i (as := [vI (4 : Int32), vI (114 : Int32), vI (111 : Int32), vI (108 : Int32), vI (108 : Int32)]) (st := []) C dX11_nameNow_218 (s_X11_starts G l e72) rfl rfl rfl t_5_184 t_5_186 t_s_28 t_1_14 t_5_187 m_X11_starts ⟨Nat.le_of_ble_eq_true rfl, Nat.le_of_ble_eq_true rfl⟩ ⟨rfl, rfl⟩ ⟨Nat.zero_le _, Nat.zero_le _⟩ rfl (Nat.le_of_ble_eq_true rfl) ?_
                        refine r_if_eq C 229 dX11_nameNow_221 (by decide)  (fun h73 => ?_) (fun h73 => ?_)
                        · have hF := if_t h73 hF
                          refine r_bipush (v := (-4 : Int32)) C dX11_nameNow_229 rfl ?_
                          exact r_ireturn C dX11_nameNow_231 (rt_e hF)
                        · have hF := if_f h73 hF
                          refine r_bipush (v := (8 : Int32)) C dX11_nameNow_224 rfl ?_
                          refine r_goto C 231 dX11_nameNow_226 (by decide) ?_
                          exact r_ireturn C dX11_nameNow_231 (rt_e hF)
                      · have hF := if_f h74 hF
                        refine r_bipush (v := (7 : Int32)) C dX11_nameNow_203 rfl ?_
                        refine r_goto C 231 dX11_nameNow_205 (by decide) ?_
                        exact r_ireturn C dX11_nameNow_231 (rt_e hF)
                    · have hF := if_f h75 hF
                      refine r_bipush (v := (6 : Int32)) C dX11_nameNow_184 rfl ?_
                      exact r_ireturn C dX11_nameNow_186 (rt_e hF)
                  · have hF := if_t h76 hF
                    refine r_iconst (v := (5 : Int32)) C dX11_nameNow_166 rfl ?_
                    exact r_ireturn C dX11_nameNow_167 (rt_e hF)
          · have hF := if_f h80 hF
            refine r_iconst (v := (4 : Int32)) C dX11_nameNow_101 rfl ?_
            exact r_ireturn C dX11_nameNow_102 (rt_e hF)
        · have hF := if_f h153 hF
          refine r_aload_n C 0 0 dX11_nameNow_68 rfl rfl ?_
          refine r_aload_n C 0 0 dX11_nameNow_69 rfl rfl ?_
          refine r_getI (kf := 10) C dX11_nameNow_70 rfl rfl f_X11 (by decide) t_5_66 rfl ?_
          refine r_iconst (v := (4 : Int32)) C dX11_nameNow_73 rfl ?_
          refine r_iadd C dX11_nameNow_74 ?_
          obtain ⟨r82, σ81, e83, hF⟩ := bd_e hF
          refine r_callV_i (as := [vI ((σ10.1 (40, 0, 0) 10) + (4 : Int32))]) (st := []) C dX11_nameNow_75 (s_X11_look G l e83) rfl rfl rfl t_5_164 t_5_166 t_s_24 t_1_14 t_5_167 m_X11_look ⟨Nat.le_of_ble_eq_true rfl, Nat.le_of_ble_eq_true rfl⟩ ⟨rfl, rfl⟩ ⟨Nat.zero_le _, Nat.zero_le _⟩ rfl (Nat.le_of_ble_eq_true rfl) ?_
          refine r_bipush (v := (104 : Int32)) C dX11_nameNow_78 rfl ?_
          refine r_icmp_ne C 85 dX11_nameNow_80 (by decide)  (fun h152 => ?_) (fun h152 => ?_)
          · have hF := if_f h152 hF
            refine r_aload_n C 0 0 dX11_nameNow_85 rfl rfl ?_
            refine r_iconst (v := (4 : Int32)) C dX11_nameNow_86 rfl ?_
            refine r_bipush (v := (108 : Int32)) C dX11_nameNow_87 rfl ?_
            refine r_bipush (v := (101 : Int32)) C dX11_nameNow_89 rfl ?_
            refine r_bipush (v := (97 : Int32)) C dX11_nameNow_91 rfl ?_
            refine r_bipush (v := (112 : Int32)) C dX11_nameNow_93 rfl ?_
            obtain ⟨r85, σ84, e86, hF⟩ := bd_e hF
            refine r_callV_i (as := [vI (4 : Int32), vI (108 : Int32), vI (101 : Int32), vI (97 : Int32), vI (112 : Int32)]) (st := []) C dX11_nameNow_95 (s_X11_starts G l e86) rfl rfl rfl t_5_184 t_5_186 t_s_28 t_1_14 t_5_187 m_X11_starts ⟨Nat.le_of_ble_eq_true rfl, Nat.le_of_ble_eq_true rfl⟩ ⟨rfl, rfl⟩ ⟨Nat.zero_le _, Nat.zero_le _⟩ rfl (Nat.le_of_ble_eq_true rfl) ?_
            refine r_if_eq C 103 dX11_nameNow_98 (by decide)  (fun h151 => ?_) (fun h151 => ?_)
            · have hF := if_t h151 hF
              refine r_aload_n C 0 0 dX11_nameNow_103 rfl rfl ?_
              refine r_bipush (v := (7 : Int32)) C dX11_nameNow_104 rfl ?_
              refine r_bipush (v := (99 : Int32)) C dX11_nameNow_106 rfl ?_
              refine r_bipush (v := (104 : Int32)) C dX11_nameNow_108 rfl ?_
              refine r_bipush (v := (105 : Int32)) C dX11_nameNow_110 rfl ?_
              refine r_bipush (v := (109 : Int32)) C dX11_nameNow_112 rfl ?_
              obtain ⟨r88, σ87, e89, hF⟩ := bd_e hF
              refine r_callV_i (as := [vI (7 : Int32), vI (99 : Int32), vI (104 : Int32), vI (105 : Int32), vI (109 : Int32)]) (st := []) C dX11_nameNow_114 (s_X11_starts G l e89) rfl rfl rfl t_5_184 t_5_186 t_s_28 t_1_14 t_5_187 m_X11_starts ⟨Nat.le_of_ble_eq_true rfl, Nat.le_of_ble_eq_true rfl⟩ ⟨rfl, rfl⟩ ⟨Nat.zero_le _, Nat.zero_le _⟩ rfl (Nat.le_of_ble_eq_true rfl) ?_
              refine r_if_eq C 168 dX11_nameNow_117 (by decide)  (fun h150 => ?_) (fun h150 => ?_)
              · have hF := if_t h150 hF
                refine r_aload_n C 0 0 dX11_nameNow_168 rfl rfl ?_
                refine r_iconst (v := (4 : Int32)) C dX11_nameNow_169 rfl ?_
                refine r_bipush (v := (104 : Int32)) C dX11_nameNow_170 rfl ?_
                refine r_bipush (v := (105 : Int32)) C dX11_nameNow_172 rfl ?_
                refine r_bipush (v := (115 : Int32)) C dX11_nameNow_174 rfl ?_
                refine r_bipush (v := (115 : Int32)) C dX11_nameNow_176 rfl ?_
                obtain ⟨r91, σ90, e92, hF⟩ := bd_e hF
                refine r_callV_i (as := [vI (4 : Int32), vI (104 : Int32), vI (105 : Int32), vI (115 : Int32), vI (115 : Int32)]) (st := []) C dX11_nameNow_178 (s_X11_starts G l e92) rfl rfl rfl t_5_184 t_5_186 t_s_28 t_1_14 t_5_187 m_X11_starts ⟨Nat.le_of_ble_eq_true rfl, Nat.le_of_ble_eq_true rfl⟩ ⟨rfl, rfl⟩ ⟨Nat.zero_le _, Nat.zero_le _⟩ rfl (Nat.le_of_ble_eq_true rfl) ?_
                refine r_if_eq C 187 dX11_nameNow_181 (by decide)  (fun h101 => ?_) (fun h101 => ?_)
                · have hF := if_t h101 hF
                  refine r_aload_n C 0 0 dX11_nameNow_187 rfl rfl ?_
                  refine r_iconst (v := (4 : Int32)) C dX11_nameNow_188 rfl ?_
                  refine r_bipush (v := (102 : Int32)) C dX11_nameNow_189 rfl ?_
                  refine r_bipush (v := (105 : Int32)) C dX11_nameNow_191 rfl ?_
                  refine r_bipush (v := (108 : Int32)) C dX11_nameNow_193 rfl ?_
                  refine r_bipush (v := (109 : Int32)) C dX11_nameNow_195 rfl ?_
                  obtain ⟨r94, σ93, e95, hF⟩ := bd_e hF
                  refine r_callV_i (as := [vI (4 : Int32), vI (102 : Int32), vI (105 : Int32), vI (108 : Int32), vI (109 : Int32)]) (st := []) C dX11_nameNow_197 (s_X11_starts G l e95) rfl rfl rfl t_5_184 t_5_186 t_s_28 t_1_14 t_5_187 m_X11_starts ⟨Nat.le_of_ble_eq_true rfl, Nat.le_of_ble_eq_true rfl⟩ ⟨rfl, rfl⟩ ⟨Nat.zero_le _, Nat.zero_le _⟩ rfl (Nat.le_of_ble_eq_true rfl) ?_
                  refine r_if_eq C 208 dX11_nameNow_200 (by decide)  (fun h100 => ?_) (fun h100 => ?_)
                  · have hF := if_t h100 hF
                    refine r_aload_n C 0 0 dX11_nameNow_208 rfl rfl ?_
                    refine r_iconst (v := (4 : Int32)) C dX11_nameNow_209 rfl ?_
                    refine r_bipush (v := (114 : Int32)) C dX11_nameNow_210 rfl ?_
                    refine r_bipush (v := (111 : Int32)) C dX11_nameNow_212 rfl ?_
                    refine r_bipush (v := (108 : Int32)) C dX11_nameNow_214 rfl ?_
                    refine r_bipush (v := (108 : Int32)) C dX11_nameNow_216 rfl ?_
                    obtain ⟨r97, σ96, e98, hF⟩ := bd_e hF
                    refine r_callV_i (as := [vI (4 : Int32), vI (114 : Int32), vI (111 : Int32), vI (108 : Int32), vI (108 : Int32)]) (st := []) C dX11_nameNow_218 (s_X11_starts G l e98) rfl rfl rfl t_5_184 t_5_186 t_s_28 t_1_14 t_5_187 m_X11_starts ⟨Nat.le_of_ble_eq_true rfl, Nat.le_of_ble_eq_true rfl⟩ ⟨rfl, rfl⟩ ⟨Nat.zero_le _, Nat.zero_le _⟩ rfl (Nat.le_of_ble_eq_true rfl) ?_
                    refine r_if_eq C 229 dX11_nameNow_221 (by decide)  (fun h99 => ?_) (fun h99 => ?_)
                    · have hF := if_t h99 hF
                      refine r_bipush (v := (-4 : Int32)) C dX11_nameNow_229 rfl ?_
                      exact r_ireturn C dX11_nameNow_231 (rt_e hF)
                    · have hF := if_f h99 hF
                      refine r_bipush (v := (8 : Int32)) C dX11_nameNow_224 rfl ?_
                      refine r_goto C 231 dX11_nameNow_226 (by decide) ?_
                      exact r_ireturn C dX11_nameNow_231 (rt_e hF)
                  · have hF := if_f h100 hF
                    refine r_bipush (v := (7 : Int32)) C dX11_nameNow_203 rfl ?_
                    refine r_goto C 231 dX11_nameNow_205 (by decide) ?_
                    exact r_ireturn C dX11_nameNow_231 (rt_e hF)
                · have hF := if_f h101 hF
                  refine r_bipush (v := (6 : Int32)) C dX11_nameNow_184 rfl ?_
                  exact r_ireturn C dX11_nameNow_186 (rt_e hF)
              · have hF := if_f h150 hF
                refine r_aload_n C 0 0 dX11_nameNow_120 rfl rfl ?_
                refine r_aload_n C 0 0 dX11_nameNow_121 rfl rfl ?_
                refine r_getI (kf := 10) C dX11_nameNow_122 rfl rfl f_X11 (by decide) t_5_66 rfl ?_
                refine r_iconst (v := (4 : Int32)) C dX11_nameNow_125 rfl ?_
                refine r_iadd C dX11_nameNow_126 ?_
                obtain ⟨r103, σ102, e104, hF⟩ := bd_e hF
                refine r_callV_i (as := [vI ((σ87.1 (40, 0, 0) 10) + (4 : Int32))]) (st := []) C dX11_nameNow_127 (s_X11_look G l e104) rfl rfl rfl t_5_164 t_5_166 t_s_24 t_1_14 t_5_167 m_X11_look ⟨Nat.le_of_ble_eq_true rfl, Nat.le_of_ble_eq_true rfl⟩ ⟨rfl, rfl⟩ ⟨Nat.zero_le _, Nat.zero_le _⟩ rfl (Nat.le_of_ble_eq_true rfl) ?_
                refine r_bipush (v := (110 : Int32)) C dX11_nameNow_130 rfl ?_
                refine r_icmp_ne C 168 dX11_nameNow_132 (by decide)  (fun h149 => ?_) (fun h149 => ?_)
                · have hF := if_f h149 hF
                  refine r_aload_n C 0 0 dX11_nameNow_168 rfl rfl ?_
                  refine r_iconst (v := (4 : Int32)) C dX11_nameNow_169 rfl ?_
                  refine r_bipush (v := (104 : Int32)) C dX11_nameNow_170 rfl ?_
                  refine r_bipush (v := (105 : Int32)) C dX11_nameNow_172 rfl ?_
                  refine r_bipush (v := (115 : Int32)) C dX11_nameNow_174 rfl ?_
                  refine r_bipush (v := (115 : Int32)) C dX11_nameNow_176 rfl ?_
                  obtain ⟨r106, σ105, e107, hF⟩ := bd_e hF
                  refine r_callV_i (as := [vI (4 : Int32), vI (104 : Int32), vI (105 : Int32), vI (115 : Int32), vI (115 : Int32)]) (st := []) C dX11_nameNow_178 (s_X11_starts G l e107) rfl rfl rfl t_5_184 t_5_186 t_s_28 t_1_14 t_5_187 m_X11_starts ⟨Nat.le_of_ble_eq_true rfl, Nat.le_of_ble_eq_true rfl⟩ ⟨rfl, rfl⟩ ⟨Nat.zero_le _, Nat.zero_le _⟩ rfl (Nat.le_of_ble_eq_true rfl) ?_
                  refine r_if_eq C 187 dX11_nameNow_181 (by decide)  (fun h116 => ?_) (fun h116 => ?_)
                  · have hF := if_t h116 hF
                    refine r_aload_n C 0 0 dX11_nameNow_187 rfl rfl ?_
                    refine r_iconst (v := (4 : Int32)) C dX11_nameNow_188 rfl ?_
                    refine r_bipush (v := (102 : Int32)) C dX11_nameNow_189 rfl ?_
                    refine r_bipush (v := (105 : Int32)) C dX11_nameNow_191 rfl ?_
                    refine r_bipush (v := (108 : Int32)) C dX11_nameNow_193 rfl ?_
                    refine r_bipush (v := (109 : Int32)) C dX11_nameNow_195 rfl ?_
                    obtain ⟨r109, σ108, e110, hF⟩ := bd_e hF
                    refine r_callV_i (as := [vI (4 : Int32), vI (102 : Int32), vI (105 : Int32), vI (108 : Int32), vI (109 : Int32)]) (st := []) C dX11_nameNow_197 (s_X11_starts G l e110) rfl rfl rfl t_5_184 t_5_186 t_s_28 t_1_14 t_5_187 m_X11_starts ⟨Nat.le_of_ble_eq_true rfl, Nat.le_of_ble_eq_true rfl⟩ ⟨rfl, rfl⟩ ⟨Nat.zero_le _, Nat.zero_le _⟩ rfl (Nat.le_of_ble_eq_true rfl) ?_
                    refine r_if_eq C 208 dX11_nameNow_200 (by decide)  (fun h115 => ?_) (fun h115 => ?_)
                    · have hF := if_t h115 hF
                      refine r_aload_n C 0 0 dX11_nameNow_208 rfl rfl ?_
                      refine r_iconst (v := (4 : Int32)) C dX11_nameNow_209 rfl ?_
                      refine r_bipush (v := (114 : Int32)) C dX11_nameNow_210 rfl ?_
                      refine r_bipush (v := (111 : Int32)) C dX11_nameNow_212 rfl ?_
                      refine r_bipush (v := (108 : Int32)) C dX11_nameNow_214 rfl ?_
                      refine r_bipush (v := (108 : Int32)) C dX11_nameNow_216 rfl ?_
                      obtain ⟨r112, σ111, e113, hF⟩ := bd_e hF
                      refine r_callV_i (as := [vI (4 : Int32), vI (114 : Int32), vI (111 : Int32), vI (108 : Int32), vI (108 : Int32)]) (st := []) C dX11_nameNow_218 (s_X11_starts G l e113) rfl rfl rfl t_5_184 t_5_186 t_s_28 t_1_14 t_5_187 m_X11_starts ⟨Nat.le_of_ble_eq_true rfl, Nat.le_of_ble_eq_true rfl⟩ ⟨rfl, rfl⟩ ⟨Nat.zero_le _, Nat.zero_le _⟩ rfl (Nat.le_of_ble_eq_true rfl) ?_
                      refine r_if_eq C 229 dX11_nameNow_221 (by decide)  (fun h114 => ?_) (fun h114 => ?_)
                      · have hF := if_t h114 hF
                        refine r_bipush (v := (-4 : Int32)) C dX11_nameNow_229 rfl ?_
                        exact r_ireturn C dX11_nameNow_231 (rt_e hF)
                      · have hF := if_f h114 hF
                        refine r_bipush (v := (8 : Int32)) C dX11_nameNow_224 rfl ?_
                        refine r_goto C 231 dX11_nameNow_226 (by decide) ?_
                        exact r_ireturn C dX11_nameNow_231 (rt_e hF)
                    · have hF := if_f h115 hF
                      refine r_bipush (v := (7 : Int32)) C dX11_nameNow_203 rfl ?_
                      refine r_goto C 231 dX11_nameNow_205 (by decide) ?_
                      exact r_ireturn C dX11_nameNow_231 (rt_e hF)
                  · have hF := if_f h116 hF
                    refine r_bipush (v := (6 : Int32)) C dX11_nameNow_184 rfl ?_
                    exact r_ireturn C dX11_nameNow_186 (rt_e hF)
                · have hF := if_t h149 hF
                  refine r_aload_n C 0 0 dX11_nameNow_135 rfl rfl ?_
                  refine r_aload_n C 0 0 dX11_nameNow_136 rfl rfl ?_
                  refine r_getI (kf := 10) C dX11_nameNow_137 rfl rfl f_X11 (by decide) t_5_66 rfl ?_
                  refine r_iconst (v := (5 : Int32)) C dX11_nameNow_140 rfl ?_
                  refine r_iadd C dX11_nameNow_141 ?_
                  obtain ⟨r118, σ117, e119, hF⟩ := bd_e hF
                  refine r_callV_i (as := [vI ((σ102.1 (40, 0, 0) 10) + (5 : Int32))]) (st := []) C dX11_nameNow_142 (s_X11_look G l e119) rfl rfl rfl t_5_164 t_5_166 t_s_24 t_1_14 t_5_167 m_X11_look ⟨Nat.le_of_ble_eq_true rfl, Nat.le_of_ble_eq_true rfl⟩ ⟨rfl, rfl⟩ ⟨Nat.zero_le _, Nat.zero_le _⟩ rfl (Nat.le_of_ble_eq_true rfl) ?_
                  refine r_bipush (v := (101 : Int32)) C dX11_nameNow_145 rfl ?_
                  refine r_icmp_ne C 168 dX11_nameNow_147 (by decide)  (fun h148 => ?_) (fun h148 => ?_)
                  · have hF := if_f h148 hF
                    refine r_aload_n C 0 0 dX11_nameNow_168 rfl rfl ?_
                    refine r_iconst (v := (4 : Int32)) C dX11_nameNow_169 rfl ?_
                    refine r_bipush (v := (104 : Int32)) C dX11_nameNow_170 rfl ?_
                    refine r_bipush (v := (105 : Int32)) C dX11_nameNow_172 rfl ?_
                    refine r_bipush (v := (115 : Int32)) C dX11_nameNow_174 rfl ?_
                    refine r_bipush (v := (115 : Int32)) C dX11_nameNow_176 rfl ?_
                    obtain ⟨r121, σ120, e122, hF⟩ := bd_e hF
                    refine r_callV_i (as := [vI (4 : Int32), vI (104 : Int32), vI (105 : Int32), vI (115 : Int32), vI (115 : Int32)]) (st := []) C dX11_nameNow_178 (s_X11_starts G l e122) rfl rfl rfl t_5_184 t_5_186 t_s_28 t_1_14 t_5_187 m_X11_starts ⟨Nat.le_of_ble_eq_true rfl, Nat.le_of_ble_eq_true rfl⟩ ⟨rfl, rfl⟩ ⟨Nat.zero_le _, Nat.zero_le _⟩ rfl (Nat.le_of_ble_eq_true rfl) ?_
                    refine r_if_eq C 187 dX11_nameNow_181 (by decide)  (fun h131 => ?_) (fun h131 => ?_)
                    · have hF := if_t h131 hF
                      refine r_aload_n C 0 0 dX11_nameNow_187 rfl rfl ?_
                      refine r_iconst (v := (4 : Int32)) C dX11_nameNow_188 rfl ?_
                      refine r_bipush (v := (102 : Int32)) C dX11_nameNow_189 rfl ?_
                      refine r_bipush (v := (105 : Int32)) C dX11_nameNow_191 rfl ?_
                      refine r_bipush (v := (108 : Int32)) C dX11_nameNow_193 rfl ?_
                      refine r_bipush (v := (109 : Int32)) C dX11_nameNow_195 rfl ?_
                      obtain ⟨r124, σ123, e125, hF⟩ := bd_e hF
                      refine r_callV_i (as := [vI (4 : Int32), vI (102 : Int32), vI (105 : Int32), vI (108 : Int32), vI (109 : Int32)]) (st := []) C dX11_nameNow_197 (s_X11_starts G l e125) rfl rfl rfl t_5_184 t_5_186 t_s_28 t_1_14 t_5_187 m_X11_starts ⟨Nat.le_of_ble_eq_true rfl, Nat.le_of_ble_eq_true rfl⟩ ⟨rfl, rfl⟩ ⟨Nat.zero_le _, Nat.zero_le _⟩ rfl (Nat.le_of_ble_eq_true rfl) ?_
                      refine r_if_eq C 208 dX11_nameNow_200 (by decide)  (fun h130 => ?_) (fun h130 => ?_)
                      · have hF := if_t h130 hF
                        refine r_aload_n C 0 0 dX11_nameNow_208 rfl rfl ?_
                        refine r_iconst (v := (4 : Int32)) C dX11_nameNow_209 rfl ?_
                        refine r_bipush (v := (114 : Int32)) C dX11_nameNow_210 rfl ?_
                        refine r_bipush (v := (111 : Int32)) C dX11_nameNow_212 rfl ?_
                        refine r_bipush (v := (108 : Int32)) C dX11_nameNow_214 rfl ?_
                        refine r_bipush (v := (108 : Int32)) C dX11_nameNow_216 rfl ?_
                        obtain ⟨r127, σ126, e128, hF⟩ := bd_e hF
                        refine r_callV_i (as := [vI (4 : Int32), vI (114 : Int32), vI (111 : Int32), vI (108 : Int32), vI (108 : Int32)]) (st := []) C dX11_nameNow_218 (s_X11_starts G l e128) rfl rfl rfl t_5_184 t_5_186 t_s_28 t_1_14 t_5_187 m_X11_starts ⟨Nat.le_of_ble_eq_true rfl, Nat.le_of_ble_eq_true rfl⟩ ⟨rfl, rfl⟩ ⟨Nat.zero_le _, Nat.zero_le _⟩ rfl (Nat.le_of_ble_eq_true rfl) ?_
                        refine r_if_eq C 229 dX11_nameNow_221 (by decide)  (fun h129 => ?_) (fun h129 => ?_)
                        · have hF := if_t h129 hF
                          refine r_bipush (v := (-4 : Int32)) C dX11_nameNow_229 rfl ?_
                          exact r_ireturn C dX11_nameNow_231 (rt_e hF)
                        · have hF := if_f h129 hF
                          refine r_bipush (v := (8 : Int32)) C dX11_nameNow_224 rfl ?_
                          refine r_goto C 231 dX11_nameNow_226 (by decide) ?_
                          exact r_ireturn C dX11_nameNow_231 (rt_e hF)
                      · have hF := if_f h130 hF
                        refine r_bipush (v := (7 : Int32)) C dX11_nameNow_203 rfl ?_
                        refine r_goto C 231 dX11_nameNow_205 (by decide) ?_
                        exact r_ireturn C dX11_nameNow_231 (rt_e hF)
                    · have hF := if_f h131 hF
                      refine r_bipush (v := (6 : Int32)) C dX11_nameNow_184 rfl ?_
                      exact r_ireturn C dX11_nameNow_186 (rt_e hF)
                  · have hF := if_t h148 hF
                    refine r_aload_n C 0 0 dX11_nameNow_150 rfl rfl ?_
                    refine r_aload_n C 0 0 dX11_nameNow_151 rfl rfl ?_
                    refine r_getI (kf := 10) C dX11_nameNow_152 rfl rfl f_X11 (by decide) t_5_66 rfl ?_
                    refine r_bipush (v := (6 : Int32)) C dX11_nameNow_155 rfl ?_
                    refine r_iadd C dX11_nameNow_157 ?_
                    obtain ⟨r133, σ132, e134, hF⟩ := bd_e hF
                    refine r_callV_i (as := [vI ((σ117.1 (40, 0, 0) 10) + (6 : Int32))]) (st := []) C dX11_nameNow_158 (s_X11_look G l e134) rfl rfl rfl t_5_164 t_5_166 t_s_24 t_1_14 t_5_167 m_X11_look ⟨Nat.le_of_ble_eq_true rfl, Nat.le_of_ble_eq_true rfl⟩ ⟨rfl, rfl⟩ ⟨Nat.zero_le _, Nat.zero_le _⟩ rfl (Nat.le_of_ble_eq_true rfl) ?_
                    refine r_bipush (v := (121 : Int32)) C dX11_nameNow_161 rfl ?_
                    refine r_icmp_ne C 168 dX11_nameNow_163 (by decide)  (fun h147 => ?_) (fun h147 => ?_)
                    · have hF := if_f h147 hF
                      refine r_aload_n C 0 0 dX11_nameNow_168 rfl rfl ?_
                      refine r_iconst (v := (4 : Int32)) C dX11_nameNow_169 rfl ?_
                      refine r_bipush (v := (104 : Int32)) C dX11_nameNow_170 rfl ?_
                      refine r_bipush (v := (105 : Int32)) C dX11_nameNow_172 rfl ?_
                      refine r_bipush (v := (115 : Int32)) C dX11_nameNow_174 rfl ?_
                      refine r_bipush (v := (115 : Int32)) C dX11_nameNow_176 rfl ?_
                      obtain ⟨r136, σ135, e137, hF⟩ := bd_e hF
                      refine r_callV_i (as := [vI (4 : Int32), vI (104 : Int32), vI (105 : Int32), vI (115 : Int32), vI (115 : Int32)]) (st := []) C dX11_nameNow_178 (s_X11_starts G l e137) rfl rfl rfl t_5_184 t_5_186 t_s_28 t_1_14 t_5_187 m_X11_starts ⟨Nat.le_of_ble_eq_true rfl, Nat.le_of_ble_eq_true rfl⟩ ⟨rfl, rfl⟩ ⟨Nat.zero_le _, Nat.zero_le _⟩ rfl (Nat.le_of_ble_eq_true rfl) ?_
                      refine r_if_eq C 187 dX11_nameNow_181 (by decide)  (fun h146 => ?_) (fun h146 => ?_)
                      · have hF := if_t h146 hF
                        refine r_aload_n C 0 0 dX11_nameNow_187 rfl rfl ?_
                        refine r_iconst (v := (4 : Int32)) C dX11_nameNow_188 rfl ?_
                        refine r_bipush (v := (102 : Int32)) C dX11_nameNow_189 rfl ?_
                        refine r_bipush (v := (105 : Int32)) C dX11_nameNow_191 rfl ?_
                        refine r_bipush (v := (108 : Int32)) C dX11_nameNow_193 rfl ?_
                        refine r_bipush (v := (109 : Int32)) C dX11_nameNow_195 rfl ?_
                        obtain ⟨r139, σ138, e140, hF⟩ := bd_e hF
                        refine r_callV_i (as := [vI (4 : Int32), vI (102 : Int32), vI (105 : Int32), vI (108 : Int32), vI (109 : Int32)]) (st := []) C dX11_nameNow_197 (s_X11_starts G l e140) rfl rfl rfl t_5_184 t_5_186 t_s_28 t_1_14 t_5_187 m_X11_starts ⟨Nat.le_of_ble_eq_true rfl, Nat.le_of_ble_eq_true rfl⟩ ⟨rfl, rfl⟩ ⟨Nat.zero_le _, Nat.zero_le _⟩ rfl (Nat.le_of_ble_eq_true rfl) ?_
                        refine r_if_eq C 208 dX11_nameNow_200 (by decide)  (fun h145 => ?_) (fun h145 => ?_)
                        · have hF := if_t h145 hF
                          refine r_aload_n C 0 0 dX11_nameNow_208 rfl rfl ?_
                          refine r_iconst (v := (4 : Int32)) C dX11_nameNow_209 rfl ?_
                          refine r_bipush (v := (114 : Int32)) C dX11_nameNow_210 rfl ?_
                          refine r_bipush (v := (111 : Int32)) C dX11_nameNow_212 rfl ?_
                          refine r_bipush (v := (108 : Int32)) C dX11_nameNow_214 rfl ?_
                          refine r_bipush (v := (108 : Int32)) C dX11_nameNow_216 rfl ?_
                          obtain ⟨r142, σ141, e143, hF⟩ := bd_e hF
                          refine r_callV_i (as := [vI (4 : Int32), vI (114 : Int32), vI (111 : Int32), vI (108 : Int32), vI (108 : Int32)]) (st := []) C dX11_nameNow_218 (s_X11_starts G l e143) rfl rfl rfl t_5_184 t_5_186 t_s_28 t_1_14 t_5_187 m_X11_starts ⟨Nat.le_of_ble_eq_true rfl, Nat.le_of_ble_eq_true rfl⟩ ⟨rfl, rfl⟩ ⟨Nat.zero_le _, Nat.zero_le _⟩ rfl (Nat.le_of_ble_eq_true rfl) ?_
                          refine r_if_eq C 229 dX11_nameNow_221 (by decide)  (fun h144 => ?_) (fun h144 => ?_)
                          · have hF := if_t h144 hF
                            refine r_bipush (v := (-4 : Int32)) C dX11_nameNow_229 rfl ?_
                            exact r_ireturn C dX11_nameNow_231 (rt_e hF)
                          · have hF := if_f h144 hF
                            refine r_bipush (v := (8 : Int32)) C dX11_nameNow_224 rfl ?_
                            refine r_goto C 231 dX11_nameNow_226 (by decide) ?_
                            exact r_ireturn C dX11_nameNow_231 (rt_e hF)
                        · have hF := if_f h145 hF
                          refine r_bipush (v := (7 : Int32)) C dX11_nameNow_203 rfl ?_
                          refine r_goto C 231 dX11_nameNow_205 (by decide) ?_
                          exact r_ireturn C dX11_nameNow_231 (rt_e hF)
                      · have hF := if_f h146 hF
                        refine r_bipush (v := (6 : Int32)) C dX11_nameNow_184 rfl ?_
                        exact r_ireturn C dX11_nameNow_186 (rt_e hF)
                    · have hF := if_t h147 hF
                      refine r_iconst (v := (5 : Int32)) C dX11_nameNow_166 rfl ?_
                      exact r_ireturn C dX11_nameNow_167 (rt_e hF)
            · have hF := if_f h151 hF
              refine r_iconst (v := (4 : Int32)) C dX11_nameNow_101 rfl ?_
              exact r_ireturn C dX11_nameNow_102 (rt_e hF)
          · have hF := if_t h152 hF
            refine r_iconst (v := (2 : Int32)) C dX11_nameNow_83 rfl ?_
            exact r_ireturn C dX11_nameNow_84 (rt_e hF)
      · have hF := if_f h154 hF
        refine r_iconst (v := (1 : Int32)) C dX11_nameNow_50 rfl ?_
        exact r_ireturn C dX11_nameNow_51 (rt_e hF)
    · have hF := if_f h155 hF
      refine r_iconst (v := (0 : Int32)) C dX11_nameNow_32 rfl ?_
      exact r_ireturn C dX11_nameNow_33 (rt_e hF)
  · have hF := if_f h156 hF
    refine r_bipush (v := (20 : Int32)) C dX11_nameNow_15 rfl ?_
    exact r_ireturn C dX11_nameNow_17 (rt_e hF)
def L_X11_next_8  : Nat → St → (St → Option (Unit × St)) → Option (Unit × St)
  | 0, _, _ => none
  | n + 1, τ, kx34 =>
  bd (F_X11_look (τ.1 (40, 0, 0) 9) τ) fun r2 σ1 => (if r2 = (32 : Int32) then nam (uI σ1 (40, 0, 0) 9 ((σ1.1 (40, 0, 0) 9) + (1 : Int32))) fun σ4 => L_X11_next_8 n  σ4 kx34 else kx34  σ1)
def L_X11_next_140  : Nat → St → (St → Option (Unit × St)) → Option (Unit × St)
  | 0, _, _ => none
  | n + 1, τ, kx217 =>
  bd (F_X11_look (τ.1 (40, 0, 0) 9) τ) fun r28 σ27 => bd (F_X11_in (r28.toInt64) (48 : Int64) (57 : Int64) σ27) fun r31 σ30 => (if r31 = 0 then kx217  σ30 else nam (fun (y33 : Int32) (σ35 : St) => nam (uI σ35 (40, 0, 0) 12 y33) fun σ36 => nam (uI σ36 (40, 0, 0) 9 ((σ36.1 (40, 0, 0) 9) + (1 : Int32))) fun σ37 => L_X11_next_140 n  σ37 kx217) fun k34 => (if (2 : Int32) ≤ ((σ30.1 (40, 0, 0) 9) - (σ30.1 (40, 0, 0) 10)) then k34 (σ30.1 (40, 0, 0) 12) σ30 else bd (F_X11_look (σ30.1 (40, 0, 0) 9) σ30) fun r39 σ38 => k34 ((((10 : Int32) * (σ30.1 (40, 0, 0) 12)) + r39) - (48 : Int32)) σ38))
def L_X11_next_82  : Nat → St → Option (Unit × St)
  | 0, _ => none
  | n + 1, τ =>
  bd (F_X11_look (τ.1 (40, 0, 0) 9) τ) fun r53 σ52 => bd (F_X11_in (r53.toInt64) (97 : Int64) (122 : Int64) σ52) fun r56 σ55 => (if r56 = 0 then some ((), σ55) else nam (uI σ55 (40, 0, 0) 9 ((σ55.1 (40, 0, 0) 9) + (1 : Int32))) fun σ58 => L_X11_next_82 n  σ58)
def F_X11_next  (σ : St) : Option (Unit × St) :=
  (if (σ.1 (40, 0, 0) 13) ≤ 0 then L_X11_next_8  FU  σ (fun  (σ6 : St) => nam (uI σ6 (40, 0, 0) 10 (σ6.1 (40, 0, 0) 9)) fun σ7 => bd (F_X11_look (σ7.1 (40, 0, 0) 9) σ7) fun r9 σ8 => (if 0 ≤ r9 then bd (F_X11_in (r9.toInt64) (97 : Int64) (122 : Int64) σ8) fun r12 σ11 => (if r12 = 0 then bd (F_X11_in (r9.toInt64) (48 : Int64) (57 : Int64) σ11) fun r15 σ14 => (if r15 = 0 then nam (uI σ14 (40, 0, 0) 11 (3 : Int32)) fun σ17 => nam (fun (y18 : Int32) (σ20 : St) => bd (F_X11_needs y18 (1 : Int32) σ20) fun _ σ21 => nam (uI σ21 (40, 0, 0) 9 ((σ21.1 (40, 0, 0) 9) + (1 : Int32))) fun σ23 => some ((), σ23)) fun k19 => (if r9 = (59 : Int32) then k19 (1 : Int32) σ17 else k19 (0 : Int32) σ17) else nam (uI σ14 (40, 0, 0) 11 (2 : Int32)) fun σ25 => nam (uI σ25 (40, 0, 0) 12 (0 : Int32)) fun σ26 => L_X11_next_140  FU  σ26 (fun  (σ43 : St) => nam (fun (y44 : Int32) (σ46 : St) => bd (F_X11_needs y44 (1 : Int32) σ46) fun _ σ47 => some ((), σ47)) fun k45 => (if (2 : Int32) < ((σ43.1 (40, 0, 0) 9) - (σ43.1 (40, 0, 0) 10)) then k45 (0 : Int32) σ43 else k45 (1 : Int32) σ43))) else nam (uI σ11 (40, 0, 0) 11 (1 : Int32)) fun σ51 => L_X11_next_82  FU  σ51 ) else nam (uI σ8 (40, 0, 0) 11 (0 : Int32)) fun σ61 => some ((), σ61))) else some ((), σ))
set_option maxRecDepth 20000 in
set_option maxHeartbeats 4000000 in
theorem l_X11_next_8 {G : Gx} {p : Program} {l : Launch} {e : Env} {s : State} {m : MethodId} {args : Array Value} {below : List Frame} {meth : Method} {c : Code} (C : Cx G p s m args meth c none 2 RX11 cX11_next)  {σ' : St}  (kx34 : St → Option (Unit × St)) (hkx34 : ∀  (τ : St), kx34  τ = some ((), σ') → Rt G p l e (lvl 1) s m args below meth c 0 0 (MQ below (va_Qv (fun b => b = σ') (Wd G) (AG G)) args s 0 0 (AG G)) 2 34 [(0, vR (40, 0, 0))] [] τ) : ∀ (n : Nat)  (τ : St), L_X11_next_8  n  τ kx34 = some ((), σ') → Rt G p l e (lvl 1) s m args below meth c 0 0 (MQ below (va_Qv (fun b => b = σ') (Wd G) (AG G)) args s 0 0 (AG G)) 2 8 [(0, vR (40, 0, 0))] [] τ := by
  intro n
  induction n with
  | zero => intro  τ hF; cases hF
  | succ n ih =>
    intro  τ hF
    unfold L_X11_next_8 at hF
    refine r_aload_n C 0 0 dX11_next_8 rfl rfl ?_
    refine r_aload_n C 0 0 dX11_next_9 rfl rfl ?_
    refine r_getI (kf := 9) C dX11_next_10 rfl rfl f_X11 (by decide) t_5_65 rfl ?_
    obtain ⟨r2, σ1, e3, hF⟩ := bd_e hF
    refine r_callV_i (as := [vI (τ.1 (40, 0, 0) 9)]) (st := []) C dX11_next_13 (s_X11_look G l e3) rfl rfl rfl t_5_164 t_5_166 t_s_24 t_1_14 t_5_167 m_X11_look ⟨Nat.le_of_ble_eq_true rfl, Nat.le_of_ble_eq_true rfl⟩ ⟨rfl, rfl⟩ ⟨Nat.zero_le _, Nat.zero_le _⟩ rfl (Nat.le_of_ble_eq_true rfl) ?_
    refine r_bipush (v := (32 : Int32)) C dX11_next_16 rfl ?_
    refine r_icmp_ne C 34 dX11_next_18 (by decide)  (fun h5 => ?_) (fun h5 => ?_)
    · have hF := if_f h5 hF
      exact hkx34 _ hF
    · have hF := if_t h5 hF
      refine r_aload_n C 0 0 dX11_next_21 rfl rfl ?_
      refine r_dup_r C dX11_next_22 ?_
      refine r_getI (kf := 9) C dX11_next_23 rfl rfl f_X11 (by decide) t_5_65 rfl ?_
      refine r_iconst (v := (1 : Int32)) C dX11_next_26 rfl ?_
      refine r_iadd C dX11_next_27 ?_
      obtain ⟨σ4, eσ4, hF⟩ := nam_e hF
      refine r_put (kf := 9) (ty0 := tyX11) C dX11_next_28 rfl rfl f_X11 tyX11_ok nmX11 (by decide) t_5_65 rfl rfl rfl rfl eσ4 ?_
      refine r_goto C 8 dX11_next_31 (by decide) ?_
      exact ih _ hF
set_option maxRecDepth 20000 in
set_option maxHeartbeats 4000000 in
theorem l_X11_next_140 {G : Gx} {p : Program} {l : Launch} {e : Env} {s : State} {m : MethodId} {args : Array Value} {below : List Frame} {meth : Method} {c : Code} (C : Cx G p s m args meth c none 2 RX11 cX11_next)  {σ' : St}  (kx217 : St → Option (Unit × St)) (hkx217 : ∀  (τ : St), kx217  τ = some ((), σ') → Rt G p l e (lvl 1) s m args below meth c 0 0 (MQ below (va_Qv (fun b => b = σ') (Wd G) (AG G)) args s 0 0 (AG G)) 2 217 [(0, vR (40, 0, 0))] [] τ) : ∀ (n : Nat)  (τ : St), L_X11_next_140  n  τ kx217 = some ((), σ') → Rt G p l e (lvl 1) s m args below meth c 0 0 (MQ below (va_Qv (fun b => b = σ') (Wd G) (AG G)) args s 0 0 (AG G)) 2 140 [(0, vR (40, 0, 0))] [] τ := by
  intro n
  induction n with
  | zero => intro  τ hF; cases hF
  | succ n ih =>
    intro  τ hF
    unfold L_X11_next_140 at hF
    refine r_aload_n C 0 0 dX11_next_140 rfl rfl ?_
    refine r_aload_n C 0 0 dX11_next_141 rfl rfl ?_
    refine r_getI (kf := 9) C dX11_next_142 rfl rfl f_X11 (by decide) t_5_65 rfl ?_
    obtain ⟨r28, σ27, e29, hF⟩ := bd_e hF
    refine r_callV_i (as := [vI (τ.1 (40, 0, 0) 9)]) (st := []) C dX11_next_145 (s_X11_look G l e29) rfl rfl rfl t_5_164 t_5_166 t_s_24 t_1_14 t_5_167 m_X11_look ⟨Nat.le_of_ble_eq_true rfl, Nat.le_of_ble_eq_true rfl⟩ ⟨rfl, rfl⟩ ⟨Nat.zero_le _, Nat.zero_le _⟩ rfl (Nat.le_of_ble_eq_true rfl) ?_
    refine r_i2l C dX11_next_148 ?_
    refine r_ldc2_w (v := (48 : Int64)) C dX11_next_149 t_5_170 ?_
    refine r_ldc2_w (v := (57 : Int64)) C dX11_next_152 t_5_171 ?_
    obtain ⟨r31, σ30, e32, hF⟩ := bd_e hF
    refine r_callS_i (as := [vL (r28.toInt64), vL (48 : Int64), vL (57 : Int64)]) (st := []) C dX11_next_155 (s_X11_in G l e32) t_5_153 t_5_154 t_1_14 t_5_155 m_X11_in ⟨Nat.le_of_ble_eq_true rfl, Nat.le_of_ble_eq_true rfl⟩ ⟨rfl, rfl⟩ ⟨Nat.zero_le _, Nat.zero_le _⟩ rfl (Nat.le_of_ble_eq_true rfl) ?_
    refine r_if_eq C 217 dX11_next_158 (by decide)  (fun h42 => ?_) (fun h42 => ?_)
    · have hF := if_t h42 hF
      exact hkx217 _ hF
    · have hF := if_f h42 hF
      refine r_aload_n C 0 0 dX11_next_161 rfl rfl ?_
      refine r_aload_n C 0 0 dX11_next_162 rfl rfl ?_
      refine r_getI (kf := 9) C dX11_next_163 rfl rfl f_X11 (by decide) t_5_65 rfl ?_
      refine r_aload_n C 0 0 dX11_next_166 rfl rfl ?_
      refine r_getI (kf := 10) C dX11_next_167 rfl rfl f_X11 (by decide) t_5_66 rfl ?_
      refine r_isub C dX11_next_170 ?_
      refine r_iconst (v := (2 : Int32)) C dX11_next_171 rfl ?_
      obtain ⟨k34, ek34, hF⟩ := nam_e hF
      have hk34 : ∀ (y33 : Int32) (σ35 : St), k34 y33 σ35 = some ((), σ') → Rt G p l e (lvl 1) s m args below meth c 0 0 (MQ below (va_Qv (fun b => b = σ') (Wd G) (AG G)) args s 0 0 (AG G)) 2 201 [(0, vR (40, 0, 0))] [vI y33, vR (40, 0, 0)] σ35 := by
        intro y33 σ35 hF
        subst ek34
        obtain ⟨σ36, eσ36, hF⟩ := nam_e hF
        refine r_put (kf := 12) (ty0 := tyX11) C dX11_next_201 rfl rfl f_X11 tyX11_ok nmX11 (by decide) t_5_68 rfl rfl rfl rfl eσ36 ?_
        refine r_aload_n C 0 0 dX11_next_204 rfl rfl ?_
        refine r_dup_r C dX11_next_205 ?_
        refine r_getI (kf := 9) C dX11_next_206 rfl rfl f_X11 (by decide) t_5_65 rfl ?_
        refine r_iconst (v := (1 : Int32)) C dX11_next_209 rfl ?_
        refine r_iadd C dX11_next_210 ?_
        obtain ⟨σ37, eσ37, hF⟩ := nam_e hF
        refine r_put (kf := 9) (ty0 := tyX11) C dX11_next_211 rfl rfl f_X11 tyX11_ok nmX11 (by decide) t_5_65 rfl rfl rfl rfl eσ37 ?_
        refine r_goto C 140 dX11_next_214 (by decide) ?_
        exact ih _ hF
      refine r_icmp_ge C 197 dX11_next_172 (by decide)  (fun h41 => ?_) (fun h41 => ?_)
      · have hF := if_t h41 hF
        refine r_aload_n C 0 0 dX11_next_197 rfl rfl ?_
        refine r_getI (kf := 12) C dX11_next_198 rfl rfl f_X11 (by decide) t_5_68 rfl ?_
        exact hk34 _ _ hF
      · have hF := if_f h41 hF
        refine r_bipush (v := (10 : Int32)) C dX11_next_175 rfl ?_
        refine r_aload_n C 0 0 dX11_next_177 rfl rfl ?_
        refine r_getI (kf := 12) C dX11_next_178 rfl rfl f_X11 (by decide) t_5_68 rfl ?_
        refine r_imul C dX11_next_181 ?_
        refine r_aload_n C 0 0 dX11_next_182 rfl rfl ?_
        refine r_aload_n C 0 0 dX11_next_183 rfl rfl ?_
        refine r_getI (kf := 9) C dX11_next_184 rfl rfl f_X11 (by decide) t_5_65 rfl ?_
        obtain ⟨r39, σ38, e40, hF⟩ := bd_e hF
        refine r_callV_i (as := [vI (σ30.1 (40, 0, 0) 9)]) (st := [vI ((10 : Int32) * (σ30.1 (40, 0, 0) 12)), vR (40, 0, 0)]) C dX11_next_187 (s_X11_look G l e40) rfl rfl rfl t_5_164 t_5_166 t_s_24 t_1_14 t_5_167 m_X11_look ⟨Nat.le_of_ble_eq_true rfl, Nat.le_of_ble_eq_true rfl⟩ ⟨rfl, rfl⟩ ⟨Nat.zero_le _, Nat.zero_le _⟩ rfl (Nat.le_of_ble_eq_true rfl) ?_
        refine r_iadd C dX11_next_190 ?_
        refine r_bipush (v := (48 : Int32)) C dX11_next_191 rfl ?_
        refine r_isub C dX11_next_193 ?_
        refine r_goto C 201 dX11_next_194 (by decide) ?_
        exact hk34 _ _ hF
set_option maxRecDepth 20000 in
set_option maxHeartbeats 4000000 in
theorem l_X11_next_82 {G : Gx} {p : Program} {l : Launch} {e : Env} {s : State} {m : MethodId} {args : Array Value} {below : List Frame} {meth : Method} {c : Code} (C : Cx G p s m args meth c none 2 RX11 cX11_next)  {σ' : St}  : ∀ (n : Nat)  (τ : St), L_X11_next_82  n  τ = some ((), σ') → Rt G p l e (lvl 1) s m args below meth c 0 0 (MQ below (va_Qv (fun b => b = σ') (Wd G) (AG G)) args s 0 0 (AG G)) 2 82 [(0, vR (40, 0, 0))] [] τ := by
  intro n
  induction n with
  | zero => intro  τ hF; cases hF
  | succ n ih =>
    intro  τ hF
    unfold L_X11_next_82 at hF
    refine r_aload_n C 0 0 dX11_next_82 rfl rfl ?_
    refine r_aload_n C 0 0 dX11_next_83 rfl rfl ?_
    refine r_getI (kf := 9) C dX11_next_84 rfl rfl f_X11 (by decide) t_5_65 rfl ?_
    obtain ⟨r53, σ52, e54, hF⟩ := bd_e hF
    refine r_callV_i (as := [vI (τ.1 (40, 0, 0) 9)]) (st := []) C dX11_next_87 (s_X11_look G l e54) rfl rfl rfl t_5_164 t_5_166 t_s_24 t_1_14 t_5_167 m_X11_look ⟨Nat.le_of_ble_eq_true rfl, Nat.le_of_ble_eq_true rfl⟩ ⟨rfl, rfl⟩ ⟨Nat.zero_le _, Nat.zero_le _⟩ rfl (Nat.le_of_ble_eq_true rfl) ?_
    refine r_i2l C dX11_next_90 ?_
    refine r_ldc2_w (v := (97 : Int64)) C dX11_next_91 t_5_168 ?_
    refine r_ldc2_w (v := (122 : Int64)) C dX11_next_94 t_5_169 ?_
    obtain ⟨r56, σ55, e57, hF⟩ := bd_e hF
    refine r_callS_i (as := [vL (r53.toInt64), vL (97 : Int64), vL (122 : Int64)]) (st := []) C dX11_next_97 (s_X11_in G l e57) t_5_153 t_5_154 t_1_14 t_5_155 m_X11_in ⟨Nat.le_of_ble_eq_true rfl, Nat.le_of_ble_eq_true rfl⟩ ⟨rfl, rfl⟩ ⟨Nat.zero_le _, Nat.zero_le _⟩ rfl (Nat.le_of_ble_eq_true rfl) ?_
    refine r_if_eq C 274 dX11_next_100 (by decide)  (fun h59 => ?_) (fun h59 => ?_)
    · have hF := if_t h59 hF
      exact r_return C dX11_next_274 (rv_e hF)
    · have hF := if_f h59 hF
      refine r_aload_n C 0 0 dX11_next_103 rfl rfl ?_
      refine r_dup_r C dX11_next_104 ?_
      refine r_getI (kf := 9) C dX11_next_105 rfl rfl f_X11 (by decide) t_5_65 rfl ?_
      refine r_iconst (v := (1 : Int32)) C dX11_next_108 rfl ?_
      refine r_iadd C dX11_next_109 ?_
      obtain ⟨σ58, eσ58, hF⟩ := nam_e hF
      refine r_put (kf := 9) (ty0 := tyX11) C dX11_next_110 rfl rfl f_X11 tyX11_ok nmX11 (by decide) t_5_65 rfl rfl rfl rfl eσ58 ?_
      refine r_goto C 82 dX11_next_113 (by decide) ?_
      exact ih _ hF
set_option maxRecDepth 20000 in
set_option maxHeartbeats 4000000 in
theorem s_X11_next (G : Gx) (l : Launch)  {σ σ' : St}  (hF : F_X11_next  σ = some ((), σ')) : Sp G l yX11_next cX11_next 2 none (lvl 1) [vR (40, 0, 0)] σ (va_Qv (fun b => b = σ') (Wd G) (AG G)) := by
  refine Sp_of (own := RX11) (by decide) rfl (Nat.le_of_ble_eq_true rfl) ?_
  intro p e s m args below meth c C
  show Rt G p l e (lvl 1) s m args below meth c 0 0 (MQ below (va_Qv (fun b => b = σ') (Wd G) (AG G)) args s 0 0 (AG G)) 2 0 [(0, vR (40, 0, 0))] [] σ
  unfold F_X11_next at hF
  refine r_aload_n C 0 0 dX11_next_0 rfl rfl ?_
  refine r_getI (kf := 13) C dX11_next_1 rfl rfl f_X11 (by decide) t_5_69 rfl ?_
  refine r_if_le C 8 dX11_next_4 (by decide)  (fun h63 => ?_) (fun h63 => ?_)
  · have hF := if_t h63 hF
    refine l_X11_next_8 C  _ ?_ _ _ hF
    · intro  σ6 hF
      refine r_aload_n C 0 0 dX11_next_34 rfl rfl ?_
      refine r_aload_n C 0 0 dX11_next_35 rfl rfl ?_
      refine r_getI (kf := 9) C dX11_next_36 rfl rfl f_X11 (by decide) t_5_65 rfl ?_
      obtain ⟨σ7, eσ7, hF⟩ := nam_e hF
      refine r_put (kf := 10) (ty0 := tyX11) C dX11_next_39 rfl rfl f_X11 tyX11_ok nmX11 (by decide) t_5_66 rfl rfl rfl rfl eσ7 ?_
      refine r_aload_n C 0 0 dX11_next_42 rfl rfl ?_
      refine r_aload_n C 0 0 dX11_next_43 rfl rfl ?_
      refine r_getI (kf := 9) C dX11_next_44 rfl rfl f_X11 (by decide) t_5_65 rfl ?_
      obtain ⟨r9, σ8, e10, hF⟩ := bd_e hF
      refine r_callV_i (as := [vI (σ7.1 (40, 0, 0) 9)]) (st := []) C dX11_next_47 (s_X11_look G l e10) rfl rfl rfl t_5_164 t_5_166 t_s_24 t_1_14 t_5_167 m_X11_look ⟨Nat.le_of_ble_eq_true rfl, Nat.le_of_ble_eq_true rfl⟩ ⟨rfl, rfl⟩ ⟨Nat.zero_le _, Nat.zero_le _⟩ rfl (Nat.le_of_ble_eq_true rfl) ?_
      refine r_istore_n (ls2 := [(1, vI r9), (0, vR (40, 0, 0))]) C dX11_next_50 1 rfl (by decide) rfl ?_
      refine r_iload_n C 0 1 dX11_next_51 rfl rfl ?_
      refine r_if_ge C 63 dX11_next_52 (by decide)  (fun h62 => ?_) (fun h62 => ?_)
      · have hF := if_t h62 hF
        refine r_iload_n C 0 1 dX11_next_63 rfl rfl ?_
        refine r_i2l C dX11_next_64 ?_
        refine r_ldc2_w (v := (97 : Int64)) C dX11_next_65 t_5_168 ?_
        refine r_ldc2_w (v := (122 : Int64)) C dX11_next_68 t_5_169 ?_
        obtain ⟨r12, σ11, e13, hF⟩ := bd_e hF
        refine r_callS_i (as := [vL (r9.toInt64), vL (97 : Int64), vL (122 : Int64)]) (st := []) C dX11_next_71 (s_X11_in G l e13) t_5_153 t_5_154 t_1_14 t_5_155 m_X11_in ⟨Nat.le_of_ble_eq_true rfl, Nat.le_of_ble_eq_true rfl⟩ ⟨rfl, rfl⟩ ⟨Nat.zero_le _, Nat.zero_le _⟩ rfl (Nat.le_of_ble_eq_true rfl) ?_
        refine r_if_eq C 116 dX11_next_74 (by decide)  (fun h60 => ?_) (fun h60 => ?_)
        · have hF := if_t h60 hF
          refine r_iload_n C 0 1 dX11_next_116 rfl rfl ?_
          refine r_i2l C dX11_next_117 ?_
          refine r_ldc2_w (v := (48 : Int64)) C dX11_next_118 t_5_170 ?_
          refine r_ldc2_w (v := (57 : Int64)) C dX11_next_121 t_5_171 ?_
          obtain ⟨r15, σ14, e16, hF⟩ := bd_e hF
          refine r_callS_i (as := [vL (r9.toInt64), vL (48 : Int64), vL (57 : Int64)]) (st := []) C dX11_next_124 (s_X11_in G l e16) t_5_153 t_5_154 t_1_14 t_5_155 m_X11_in ⟨Nat.le_of_ble_eq_true rfl, Nat.le_of_ble_eq_true rfl⟩ ⟨rfl, rfl⟩ ⟨Nat.zero_le _, Nat.zero_le _⟩ rfl (Nat.le_of_ble_eq_true rfl) ?_
          refine r_if_eq C 243 dX11_next_127 (by decide)  (fun h50 => ?_) (fun h50 => ?_)
          · have hF := if_t h50 hF
            refine r_aload_n C 1 0 dX11_next_243 rfl rfl ?_
            refine r_iconst (v := (3 : Int32)) C dX11_next_244 rfl ?_
            obtain ⟨σ17, eσ17, hF⟩ := nam_e hF
            refine r_put (kf := 11) (ty0 := tyX11) C dX11_next_245 rfl rfl f_X11 tyX11_ok nmX11 (by decide) t_5_67 rfl rfl rfl rfl eσ17 ?_
            refine r_aload_n C 1 0 dX11_next_248 rfl rfl ?_
            refine r_iload_n C 0 1 dX11_next_249 rfl rfl ?_
            refine r_bipush (v := (59 : Int32)) C dX11_next_250 rfl ?_
            obtain ⟨k19, ek19, hF⟩ := nam_e hF
            have hk19 : ∀ (y18 : Int32) (σ20 : St), k19 y18 σ20 = some ((), σ') → Rt G p l e (lvl 1) s m args below meth c 0 0 (MQ below (va_Qv (fun b => b = σ') (Wd G) (AG G)) args s 0 0 (AG G)) 2 260 [(0, vR (40, 0, 0))] [vI y18, vR (40, 0, 0)] σ20 := by
              intro y18 σ20 hF
              subst ek19
              refine r_iconst (v := (1 : Int32)) C dX11_next_260 rfl ?_
              obtain ⟨⟨⟩, σ21, e22, hF⟩ := bd_e hF
              refine r_callV_v (as := [vI y18, vI (1 : Int32)]) (st := []) C dX11_next_261 (s_X11_needs G l e22) rfl rfl rfl t_5_172 t_5_174 t_s_25 t_1_14 t_5_175 m_X11_needs ⟨Nat.le_of_ble_eq_true rfl, Nat.le_of_ble_eq_true rfl⟩ ⟨rfl, rfl⟩ ⟨Nat.zero_le _, Nat.zero_le _⟩ rfl (Nat.le_of_ble_eq_true rfl) ?_
              refine r_aload_n C 0 0 dX11_next_264 rfl rfl ?_
              refine r_dup_r C dX11_next_265 ?_
              refine r_getI (kf := 9) C dX11_next_266 rfl rfl f_X11 (by decide) t_5_65 rfl ?_
              refine r_iconst (v := (1 : Int32)) C dX11_next_269 rfl ?_
              refine r_iadd C dX11_next_270 ?_
              obtain ⟨σ23, eσ23, hF⟩ := nam_e hF
              refine r_put (kf := 9) (ty0 := tyX11) C dX11_next_271 rfl rfl f_X11 tyX11_ok nmX11 (by decide) t_5_65 rfl rfl rfl rfl eσ23 ?_
              exact r_return C dX11_next_274 (rv_e hF)
            refine r_icmp_ne C 259 dX11_next_252 (by decide)  (fun h24 => ?_) (fun h24 => ?_)
            · have hF := if_f h24 hF
              refine r_iconst (v := (0 : Int32)) C dX11_next_259 rfl ?_
              refine r_drop (ls2 := [(0, vR (40, 0, 0))]) [1] rfl ?_
              exact hk19 _ _ hF
            · have hF := if_t h24 hF
              refine r_iconst (v := (1 : Int32)) C dX11_next_255 rfl ?_
              refine r_goto C 260 dX11_next_256 (by decide) ?_
              refine r_drop (ls2 := [(0, vR (40, 0, 0))]) [1] rfl ?_
              exact hk19 _ _ hF
          · have hF := if_f h50 hF
            refine r_aload_n C 1 0 dX11_next_130 rfl rfl ?_
            refine r_iconst (v := (2 : Int32)) C dX11_next_131 rfl ?_
            obtain ⟨σ25, eσ25, hF⟩ := nam_e hF
            refine r_put (kf := 11) (ty0 := tyX11) C dX11_next_132 rfl rfl f_X11 tyX11_ok nmX11 (by decide) t_5_67 rfl rfl rfl rfl eσ25 ?_
            refine r_aload_n C 1 0 dX11_next_135 rfl rfl ?_
            refine r_iconst (v := (0 : Int32)) C dX11_next_136 rfl ?_
            obtain ⟨σ26, eσ26, hF⟩ := nam_e hF
            refine r_put (kf := 12) (ty0 := tyX11) C dX11_next_137 rfl rfl f_X11 tyX11_ok nmX11 (by decide) t_5_68 rfl rfl rfl rfl eσ26 ?_
            refine r_drop (ls2 := [(0, vR (40, 0, 0))]) [1] rfl ?_
            refine l_X11_next_140 C  _ ?_ _ _ hF
            · intro  σ43 hF
              refine r_aload_n C 0 0 dX11_next_217 rfl rfl ?_
              refine r_aload_n C 0 0 dX11_next_218 rfl rfl ?_
              refine r_getI (kf := 9) C dX11_next_219 rfl rfl f_X11 (by decide) t_5_65 rfl ?_
              refine r_aload_n C 0 0 dX11_next_222 rfl rfl ?_
              refine r_getI (kf := 10) C dX11_next_223 rfl rfl f_X11 (by decide) t_5_66 rfl ?_
              refine r_isub C dX11_next_226 ?_
              refine r_iconst (v := (2 : Int32)) C dX11_next_227 rfl ?_
              obtain ⟨k45, ek45, hF⟩ := nam_e hF
              have hk45 : ∀ (y44 : Int32) (σ46 : St), k45 y44 σ46 = some ((), σ') → Rt G p l e (lvl 1) s m args below meth c 0 0 (MQ below (va_Qv (fun b => b = σ') (Wd G) (AG G)) args s 0 0 (AG G)) 2 236 [] [vI y44, vR (40, 0, 0)] σ46 := by
                intro y44 σ46 hF
                subst ek45
                refine r_iconst (v := (1 : Int32)) C dX11_next_236 rfl ?_
                obtain ⟨⟨⟩, σ47, e48, hF⟩ := bd_e hF
                refine r_callV_v (as := [vI y44, vI (1 : Int32)]) (st := []) C dX11_next_237 (s_X11_needs G l e48) rfl rfl rfl t_5_172 t_5_174 t_s_25 t_1_14 t_5_175 m_X11_needs ⟨Nat.le_of_ble_eq_true rfl, Nat.le_of_ble_eq_true rfl⟩ ⟨rfl, rfl⟩ ⟨Nat.zero_le _, Nat.zero_le _⟩ rfl (Nat.le_of_ble_eq_true rfl) ?_
                refine r_goto C 274 dX11_next_240 (by decide) ?_
                exact r_return C dX11_next_274 (rv_e hF)
              refine r_icmp_gt C 235 dX11_next_228 (by decide)  (fun h49 => ?_) (fun h49 => ?_)
              · have hF := if_t h49 hF
                refine r_iconst (v := (0 : Int32)) C dX11_next_235 rfl ?_
                refine r_drop (ls2 := []) [] rfl ?_
                exact hk45 _ _ hF
              · have hF := if_f h49 hF
                refine r_iconst (v := (1 : Int32)) C dX11_next_231 rfl ?_
                refine r_goto C 236 dX11_next_232 (by decide) ?_
                refine r_drop (ls2 := []) [] rfl ?_
                exact hk45 _ _ hF
        · have hF := if_f h60 hF
          refine r_aload_n C 1 0 dX11_next_77 rfl rfl ?_
          refine r_iconst (v := (1 : Int32)) C dX11_next_78 rfl ?_
          obtain ⟨σ51, eσ51, hF⟩ := nam_e hF
          refine r_put (kf := 11) (ty0 := tyX11) C dX11_next_79 rfl rfl f_X11 tyX11_ok nmX11 (by decide) t_5_67 rfl rfl rfl rfl eσ51 ?_
          refine r_drop (ls2 := [(0, vR (40, 0, 0))]) [1] rfl ?_
          refine l_X11_next_82 C   _ _ hF
      · have hF := if_f h62 hF
        refine r_aload_n C 1 0 dX11_next_55 rfl rfl ?_
        refine r_iconst (v := (0 : Int32)) C dX11_next_56 rfl ?_
        obtain ⟨σ61, eσ61, hF⟩ := nam_e hF
        refine r_put (kf := 11) (ty0 := tyX11) C dX11_next_57 rfl rfl f_X11 tyX11_ok nmX11 (by decide) t_5_67 rfl rfl rfl rfl eσ61 ?_
        refine r_goto C 274 dX11_next_60 (by decide) ?_
        exact r_return C dX11_next_274 (rv_e hF)
  · have hF := if_f h63 hF
    exact r_return C dX11_next_7 (rv_e hF)
