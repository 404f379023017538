def F_X11_isSheet (a0 : Int32) (a1 : Int32) (σ : St) : Option (Int32 × St) :=
  bd (F_X11_in (a0.toInt64) (0 : Int64) (3 : Int64) σ) fun r2 σ1 => (if r2 = 0 then some ((0 : Int32), σ1) else bd (F_X11_in (a1.toInt64) (0 : Int64) (2 : Int64) σ1) fun r5 σ4 => (if r5 = 0 then some ((0 : Int32), σ4) else some ((1 : Int32), σ4)))
set_option maxRecDepth 20000 in
set_option maxHeartbeats 4000000 in
theorem s_X11_isSheet (G : Gx) (l : Launch) {a0 : Int32} {a1 : Int32} {σ σ' : St} {r : Int32} (hF : F_X11_isSheet a0 a1 σ = some (r, σ')) : Sp G l yX11_isSheet cX11_isSheet 2 (some .boolean) (lvl 1) [vI a0, vI a1] σ (va_Qi (fun a b => a = r ∧ b = σ') (Wd G) (AG G)) := by
  refine Sp_of (own := RX11) (by decide) rfl (Nat.le_of_ble_eq_true rfl) ?_
  intro p e s m args below meth c C
  show Rt G p l e (lvl 1) s m args below meth c 0 0 (MQ below (va_Qi (fun a b => a = r ∧ b = σ') (Wd G) (AG G)) args s 0 0 (AG G)) 2 0 [(0, vI a0), (1, vI a1)] [] σ
  unfold F_X11_isSheet at hF
  refine r_iload_n C 0 0 dX11_isSheet_0 rfl rfl ?_
  refine r_i2l C dX11_isSheet_1 ?_
  refine r_lconst (v := (0 : Int64)) C dX11_isSheet_2 rfl ?_
  refine r_ldc2_w (v := (3 : Int64)) C dX11_isSheet_3 t_6_18 ?_
  obtain ⟨r2, σ1, e3, hF⟩ := bd_e hF
  refine r_callS_i (as := [vL (a0.toInt64), vL (0 : Int64), vL (3 : Int64)]) (st := []) C dX11_isSheet_6 (s_X11_in G l e3) t_5_155 t_5_156 t_1_14 t_5_157 m_X11_in ⟨Nat.le_of_ble_eq_true rfl, Nat.le_of_ble_eq_true rfl⟩ ⟨rfl, rfl⟩ ⟨Nat.zero_le _, Nat.zero_le _⟩ rfl (Nat.le_of_ble_eq_true rfl) ?_
  refine r_if_eq C 28 dX11_isSheet_9 (by decide)  (fun h8 => ?_) (fun h8 => ?_)
  · have hF := if_t h8 hF
    refine r_iconst (v := (0 : Int32)) C dX11_isSheet_28 rfl ?_
    exact r_zreturn C dX11_isSheet_29 (nar_z (Or.inl rfl)) (rt_e hF)
  · have hF := if_f h8 hF
    refine r_iload_n C 1 1 dX11_isSheet_12 rfl rfl ?_
    refine r_i2l C dX11_isSheet_13 ?_
    refine r_lconst (v := (0 : Int64)) C dX11_isSheet_14 rfl ?_
    refine r_ldc2_w (v := (2 : Int64)) C dX11_isSheet_15 t_6_141 ?_
    obtain ⟨r5, σ4, e6, hF⟩ := bd_e hF
    refine r_callS_i (as := [vL (a1.toInt64), vL (0 : Int64), vL (2 : Int64)]) (st := []) C dX11_isSheet_18 (s_X11_in G l e6) t_5_155 t_5_156 t_1_14 t_5_157 m_X11_in ⟨Nat.le_of_ble_eq_true rfl, Nat.le_of_ble_eq_true rfl⟩ ⟨rfl, rfl⟩ ⟨Nat.zero_le _, Nat.zero_le _⟩ rfl (Nat.le_of_ble_eq_true rfl) ?_
    refine r_if_eq C 28 dX11_isSheet_21 (by decide)  (fun h7 => ?_) (fun h7 => ?_)
    · have hF := if_t h7 hF
      refine r_iconst (v := (0 : Int32)) C dX11_isSheet_28 rfl ?_
      exact r_zreturn C dX11_isSheet_29 (nar_z (Or.inl rfl)) (rt_e hF)
    · have hF := if_f h7 hF
      refine r_iconst (v := (1 : Int32)) C dX11_isSheet_24 rfl ?_
      refine r_goto C 29 dX11_isSheet_25 (by decide) ?_
      exact r_zreturn C dX11_isSheet_29 (nar_z (Or.inr rfl)) (rt_e hF)
def L_X11_sheet_40 (c1 : Int32) : Nat → Int32 → St → Option (Int32 × St)
  | 0, _, _ => none
  | n + 1, v4, τ =>
  (if (40 : Int32) ≤ v4 then some ((1 : Int32), τ) else ck (inb (((40 : Int32) * c1) + v4) 160) (nam (uI τ (54, 0, 0) ((((40 : Int32) * c1) + v4).toNatClampNeg) (0 : Int32)) fun σ9 => nam (v4 + (1 : Int32)) fun x10 => L_X11_sheet_40 c1 n x10 σ9))
def F_X11_sheet (a1 : Int32) (a2 : Int32) (a3 : Int32) (σ : St) : Option (Int32 × St) :=
  bd (F_X11_isSheet a1 a2 σ) fun r2 σ1 => (if r2 = 0 then some ((-1 : Int32), σ1) else (if a3 ≤ (40 : Int32) then (if 0 ≤ a3 then ck (inb a1 4) (nam (uI σ1 (52, 0, 0) (a1.toNatClampNeg) a2) fun σ5 => ck (inb a1 4) (nam (uI σ5 (53, 0, 0) (a1.toNatClampNeg) a3) fun σ7 => L_X11_sheet_40 a1 FU (0 : Int32) σ7 )) else some ((-14 : Int32), σ1)) else some ((-1 : Int32), σ1)))
set_option maxRecDepth 20000 in
set_option maxHeartbeats 4000000 in
theorem l_X11_sheet_40 {G : Gx} {p : Program} {l : Launch} {e : Env} {s : State} {m : MethodId} {args : Array Value} {below : List Frame} {meth : Method} {c : Code} (C : Cx G p s m args meth c (some .int) 5 RX11 cX11_sheet) (c1 : Int32) {σ' : St} {r : Int32} : ∀ (n : Nat) (v4 : Int32) (τ : St), L_X11_sheet_40 c1 n v4 τ = some (r, σ') → Rt G p l e (lvl 2) s m args below meth c 0 0 (MQ below (va_Qi (fun a b => a = r ∧ b = σ') (Wd G) (AG G)) args s 0 0 (AG G)) 5 40 [(0, vR (40, 0, 0)), (1, vI c1), (4, vI v4)] [] τ := by
  intro n
  induction n with
  | zero => intro v4 τ hF; cases hF
  | succ n ih =>
    intro v4 τ hF
    unfold L_X11_sheet_40 at hF
    refine r_iload C 2 dX11_sheet_40 rfl ?_
    refine r_bipush (v := (40 : Int32)) C dX11_sheet_42 rfl ?_
    refine r_icmp_ge C 66 dX11_sheet_44 (by decide)  (fun h11 => ?_) (fun h11 => ?_)
    · have hF := if_t h11 hF
      refine r_iconst (v := (1 : Int32)) C dX11_sheet_66 rfl ?_
      exact r_ireturn C dX11_sheet_67 (rt_e hF)
    · have hF := if_f h11 hF
      refine r_aload_n C 0 0 dX11_sheet_47 rfl rfl ?_
      refine r_getR (kf := 27) (d2 := (54, 0, 0)) C dX11_sheet_48 rfl rfl f_X11 (by decide) t_5_85 rfl rfl ?_
      refine r_bipush (v := (40 : Int32)) C dX11_sheet_51 rfl ?_
      refine r_iload_n C 1 1 dX11_sheet_53 rfl rfl ?_
      refine r_imul C dX11_sheet_54 ?_
      refine r_iload C 2 dX11_sheet_55 rfl ?_
      refine r_iadd C dX11_sheet_57 ?_
      refine r_iconst (v := (0 : Int32)) C dX11_sheet_58 rfl ?_
      obtain ⟨h8, hF⟩ := ck_e hF
      obtain ⟨σ9, eσ9, hF⟩ := nam_e hF
      refine r_iastore C ((((40 : Int32) * c1) + v4).toNatClampNeg) dX11_sheet_59 rfl h8 rfl eσ9 ?_
      obtain ⟨x10, ex10, hF⟩ := nam_e hF
      refine r_iinc (v := x10) (ls2 := [(4, vI x10), (0, vR (40, 0, 0)), (1, vI c1)]) C 2 dX11_sheet_60 rfl ex10.symm (by decide) rfl ?_
      refine r_goto C 40 dX11_sheet_63 (by decide) ?_
      refine r_drop (ls2 := [(0, vR (40, 0, 0)), (1, vI c1), (4, vI x10)]) [1, 2, 0] rfl ?_
      exact ih _ _ hF
set_option maxRecDepth 20000 in
set_option maxHeartbeats 4000000 in
theorem s_X11_sheet (G : Gx) (l : Launch) {a1 : Int32} {a2 : Int32} {a3 : Int32} {σ σ' : St} {r : Int32} (hF : F_X11_sheet a1 a2 a3 σ = some (r, σ')) : Sp G l yX11_sheet cX11_sheet 5 (some .int) (lvl 2) [vR (40, 0, 0), vI a1, vI a2, vI a3] σ (va_Qi (fun a b => a = r ∧ b = σ') (Wd G) (AG G)) := by
  refine Sp_of (own := RX11) (by decide) rfl (Nat.le_of_ble_eq_true rfl) ?_
  intro p e s m args below meth c C
  show Rt G p l e (lvl 2) s m args below meth c 0 0 (MQ below (va_Qi (fun a b => a = r ∧ b = σ') (Wd G) (AG G)) args s 0 0 (AG G)) 5 0 [(0, vR (40, 0, 0)), (1, vI a1), (2, vI a2), (3, vI a3)] [] σ
  unfold F_X11_sheet at hF
  refine r_iload_n C 1 1 dX11_sheet_0 rfl rfl ?_
  refine r_iload_n C 2 2 dX11_sheet_1 rfl rfl ?_
  obtain ⟨r2, σ1, e3, hF⟩ := bd_e hF
  refine r_callS_i (as := [vI a1, vI a2]) (st := []) C dX11_sheet_2 (s_X11_isSheet G l e3) t_6_233 t_6_234 t_1_14 t_6_235 m_X11_isSheet ⟨Nat.le_of_ble_eq_true rfl, Nat.le_of_ble_eq_true rfl⟩ ⟨rfl, rfl⟩ ⟨Nat.zero_le _, Nat.zero_le _⟩ rfl (Nat.le_of_ble_eq_true rfl) ?_
  refine r_if_eq C 14 dX11_sheet_5 (by decide)  (fun h14 => ?_) (fun h14 => ?_)
  · have hF := if_t h14 hF
    refine r_iconst (v := (-1 : Int32)) C dX11_sheet_14 rfl ?_
    exact r_ireturn C dX11_sheet_15 (rt_e hF)
  · have hF := if_f h14 hF
    refine r_iload_n C 3 3 dX11_sheet_8 rfl rfl ?_
    refine r_bipush (v := (40 : Int32)) C dX11_sheet_9 rfl ?_
    refine r_icmp_le C 16 dX11_sheet_11 (by decide)  (fun h13 => ?_) (fun h13 => ?_)
    · have hF := if_t h13 hF
      refine r_iload_n C 3 3 dX11_sheet_16 rfl rfl ?_
      refine r_if_ge C 23 dX11_sheet_17 (by decide)  (fun h12 => ?_) (fun h12 => ?_)
      · have hF := if_t h12 hF
        refine r_aload_n C 0 0 dX11_sheet_23 rfl rfl ?_
        refine r_getR (kf := 25) (d2 := (52, 0, 0)) C dX11_sheet_24 rfl rfl f_X11 (by decide) t_5_83 rfl rfl ?_
        refine r_iload_n C 1 1 dX11_sheet_27 rfl rfl ?_
        refine r_iload_n C 2 2 dX11_sheet_28 rfl rfl ?_
        obtain ⟨h4, hF⟩ := ck_e hF
        obtain ⟨σ5, eσ5, hF⟩ := nam_e hF
        refine r_iastore C (a1.toNatClampNeg) dX11_sheet_29 rfl h4 rfl eσ5 ?_
        refine r_aload_n C 0 0 dX11_sheet_30 rfl rfl ?_
        refine r_getR (kf := 26) (d2 := (53, 0, 0)) C dX11_sheet_31 rfl rfl f_X11 (by decide) t_5_84 rfl rfl ?_
        refine r_iload_n C 1 1 dX11_sheet_34 rfl rfl ?_
        refine r_iload_n C 3 3 dX11_sheet_35 rfl rfl ?_
        obtain ⟨h6, hF⟩ := ck_e hF
        obtain ⟨σ7, eσ7, hF⟩ := nam_e hF
        refine r_iastore C (a1.toNatClampNeg) dX11_sheet_36 rfl h6 rfl eσ7 ?_
        refine r_iconst (v := (0 : Int32)) C dX11_sheet_37 rfl ?_
        refine r_istore (ls2 := [(4, vI (0 : Int32)), (0, vR (40, 0, 0)), (1, vI a1), (2, vI a2), (3, vI a3)]) C dX11_sheet_38 (by decide) rfl ?_
        refine r_drop (ls2 := [(0, vR (40, 0, 0)), (1, vI a1), (4, vI (0 : Int32))]) [1, 2, 0] rfl ?_
        refine l_X11_sheet_40 C a1  _ _ _ hF
      · have hF := if_f h12 hF
        refine r_bipush (v := (-14 : Int32)) C dX11_sheet_20 rfl ?_
        exact r_ireturn C dX11_sheet_22 (rt_e hF)
    · have hF := if_f h13 hF
      refine r_iconst (v := (-1 : Int32)) C dX11_sheet_14 rfl ?_
      exact r_ireturn C dX11_sheet_15 (rt_e hF)
def F_X11_lay (a1 : Int32) (a2 : Int32) (a3 : Int32) (σ : St) : Option (Int32 × St) :=
  bd (F_X11_isSheet a1 (0 : Int32) σ) fun r2 σ1 => (if r2 = 0 then some ((-1 : Int32), σ1) else ck (inb a1 4) ((if (σ1.1 (52, 0, 0) (a1.toNatClampNeg)) = (-4 : Int32) then some ((-11 : Int32), σ1) else ck (inb a1 4) (bd (F_X11_in (a2.toInt64) (0 : Int64) (((σ1.1 (53, 0, 0) (a1.toNatClampNeg)) - (1 : Int32)).toInt64) σ1) fun r7 σ6 => (if r7 = 0 then some ((-12 : Int32), σ6) else ck (inb a1 4) (nam (fun (y10 : Int32) (σ12 : St) => ck (inb (((40 : Int32) * a1) + a2) 160) (nam (uI σ12 (54, 0, 0) ((((40 : Int32) * a1) + a2).toNatClampNeg) y10) fun σ14 => some ((1 : Int32), σ14))) fun k11 => (if (σ6.1 (52, 0, 0) (a1.toNatClampNeg)) = 0 then k11 (a3.toInt8.toInt32) σ6 else ck (inb a1 4) ((if (σ6.1 (52, 0, 0) (a1.toNatClampNeg)) = (1 : Int32) then k11 (a3.toInt16.toInt32) σ6 else k11 a3 σ6)))))))))
set_option maxRecDepth 20000 in
set_option maxHeartbeats 4000000 in
theorem s_X11_lay (G : Gx) (l : Launch) {a1 : Int32} {a2 : Int32} {a3 : Int32} {σ σ' : St} {r : Int32} (hF : F_X11_lay a1 a2 a3 σ = some (r, σ')) : Sp G l yX11_lay cX11_lay 4 (some .int) (lvl 2) [vR (40, 0, 0), vI a1, vI a2, vI a3] σ (va_Qi (fun a b => a = r ∧ b = σ') (Wd G) (AG G)) := by
  refine Sp_of (own := RX11) (by decide) rfl (Nat.le_of_ble_eq_true rfl) ?_
  intro p e s m args below meth c C
  show Rt G p l e (lvl 2) s m args below meth c 0 0 (MQ below (va_Qi (fun a b => a = r ∧ b = σ') (Wd G) (AG G)) args s 0 0 (AG G)) 4 0 [(0, vR (40, 0, 0)), (1, vI a1), (2, vI a2), (3, vI a3)] [] σ
  unfold F_X11_lay at hF
  refine r_iload_n C 1 1 dX11_lay_0 rfl rfl ?_
  refine r_iconst (v := (0 : Int32)) C dX11_lay_1 rfl ?_
  obtain ⟨r2, σ1, e3, hF⟩ := bd_e hF
  refine r_callS_i (as := [vI a1, vI (0 : Int32)]) (st := []) C dX11_lay_2 (s_X11_isSheet G l e3) t_6_233 t_6_234 t_1_14 t_6_235 m_X11_isSheet ⟨Nat.le_of_ble_eq_true rfl, Nat.le_of_ble_eq_true rfl⟩ ⟨rfl, rfl⟩ ⟨Nat.zero_le _, Nat.zero_le _⟩ rfl (Nat.le_of_ble_eq_true rfl) ?_
  refine r_if_ne C 10 dX11_lay_5 (by decide)  (fun h20 => ?_) (fun h20 => ?_)
  · have hF := if_f h20 hF
    refine r_aload_n C 0 0 dX11_lay_10 rfl rfl ?_
    refine r_getR (kf := 25) (d2 := (52, 0, 0)) C dX11_lay_11 rfl rfl f_X11 (by decide) t_5_83 rfl rfl ?_
    refine r_iload_n C 1 1 dX11_lay_14 rfl rfl ?_
    obtain ⟨h4, hF⟩ := ck_e hF
    refine r_iaload C (a1.toNatClampNeg) dX11_lay_15 rfl h4 rfl ?_
    refine r_bipush (v := (-4 : Int32)) C dX11_lay_16 rfl ?_
    refine r_icmp_ne C 24 dX11_lay_18 (by decide)  (fun h19 => ?_) (fun h19 => ?_)
    · have hF := if_f h19 hF
      refine r_iload_n C 2 2 dX11_lay_24 rfl rfl ?_
      refine r_i2l C dX11_lay_25 ?_
      refine r_lconst (v := (0 : Int64)) C dX11_lay_26 rfl ?_
      refine r_aload_n C 0 0 dX11_lay_27 rfl rfl ?_
      refine r_getR (kf := 26) (d2 := (53, 0, 0)) C dX11_lay_28 rfl rfl f_X11 (by decide) t_5_84 rfl rfl ?_
      refine r_iload_n C 1 1 dX11_lay_31 rfl rfl ?_
      obtain ⟨h5, hF⟩ := ck_e hF
      refine r_iaload C (a1.toNatClampNeg) dX11_lay_32 rfl h5 rfl ?_
      refine r_iconst (v := (1 : Int32)) C dX11_lay_33 rfl ?_
      refine r_isub C dX11_lay_34 ?_
      refine r_i2l C dX11_lay_35 ?_
      obtain ⟨r7, σ6, e8, hF⟩ := bd_e hF
      refine r_callS_i (as := [vL (a2.toInt64), vL (0 : Int64), vL (((σ1.1 (53, 0, 0) (a1.toNatClampNeg)) - (1 : Int32)).toInt64)]) (st := []) C dX11_lay_36 (s_X11_in G l e8) t_5_155 t_5_156 t_1_14 t_5_157 m_X11_in ⟨Nat.le_of_ble_eq_true rfl, Nat.le_of_ble_eq_true rfl⟩ ⟨rfl, rfl⟩ ⟨Nat.zero_le _, Nat.zero_le _⟩ rfl (Nat.le_of_ble_eq_true rfl) ?_
      refine r_if_ne C 45 dX11_lay_39 (by decide)  (fun h18 => ?_) (fun h18 => ?_)
      · have hF := if_f h18 hF
        refine r_aload_n C 0 0 dX11_lay_45 rfl rfl ?_
        refine r_getR (kf := 27) (d2 := (54, 0, 0)) C dX11_lay_46 rfl rfl f_X11 (by decide) t_5_85 rfl rfl ?_
        refine r_bipush (v := (40 : Int32)) C dX11_lay_49 rfl ?_
        refine r_iload_n C 1 1 dX11_lay_51 rfl rfl ?_
        refine r_imul C dX11_lay_52 ?_
        refine r_iload_n C 2 2 dX11_lay_53 rfl rfl ?_
        refine r_iadd C dX11_lay_54 ?_
        refine r_aload_n C 0 0 dX11_lay_55 rfl rfl ?_
        refine r_getR (kf := 25) (d2 := (52, 0, 0)) C dX11_lay_56 rfl rfl f_X11 (by decide) t_5_83 rfl rfl ?_
        refine r_iload_n C 1 1 dX11_lay_59 rfl rfl ?_
        obtain ⟨h9, hF⟩ := ck_e hF
        refine r_iaload C (a1.toNatClampNeg) dX11_lay_60 rfl h9 rfl ?_
        obtain ⟨k11, ek11, hF⟩ := nam_e hF
        have hk11 : ∀ (y10 : Int32) (σ12 : St), k11 y10 σ12 = some (r, σ') → Rt G p l e (lvl 2) s m args below meth c 0 0 (MQ below (va_Qi (fun a b => a = r ∧ b = σ') (Wd G) (AG G)) args s 0 0 (AG G)) 4 85 [] [vI y10, vI (((40 : Int32) * a1) + a2), vR (54, 0, 0)] σ12 := by
          intro y10 σ12 hF
          subst ek11
          obtain ⟨h13, hF⟩ := ck_e hF
          obtain ⟨σ14, eσ14, hF⟩ := nam_e hF
          refine r_iastore C ((((40 : Int32) * a1) + a2).toNatClampNeg) dX11_lay_85 rfl h13 rfl eσ14 ?_
          refine r_iconst (v := (1 : Int32)) C dX11_lay_86 rfl ?_
          exact r_ireturn C dX11_lay_87 (rt_e hF)
        refine r_if_ne C 69 dX11_lay_61 (by decide)  (fun h17 => ?_) (fun h17 => ?_)
        · have hF := if_f h17 hF
          refine r_aload_n C 0 0 dX11_lay_69 rfl rfl ?_
          refine r_getR (kf := 25) (d2 := (52, 0, 0)) C dX11_lay_70 rfl rfl f_X11 (by decide) t_5_83 rfl rfl ?_
          refine r_iload_n C 1 1 dX11_lay_73 rfl rfl ?_
          obtain ⟨h15, hF⟩ := ck_e hF
          refine r_iaload C (a1.toNatClampNeg) dX11_lay_74 rfl h15 rfl ?_
          refine r_iconst (v := (1 : Int32)) C dX11_lay_75 rfl ?_
          refine r_icmp_ne C 84 dX11_lay_76 (by decide)  (fun h16 => ?_) (fun h16 => ?_)
          · have hF := if_f h16 hF
            refine r_iload_n C 3 3 dX11_lay_84 rfl rfl ?_
            refine r_drop (ls2 := []) [] rfl ?_
            exact hk11 _ _ hF
          · have hF := if_t h16 hF
            refine r_iload_n C 3 3 dX11_lay_79 rfl rfl ?_
            refine r_i2s C dX11_lay_80 ?_
            refine r_goto C 85 dX11_lay_81 (by decide) ?_
            refine r_drop (ls2 := []) [] rfl ?_
            exact hk11 _ _ hF
        · have hF := if_t h17 hF
          refine r_iload_n C 3 3 dX11_lay_64 rfl rfl ?_
          refine r_i2b C dX11_lay_65 ?_
          refine r_goto C 85 dX11_lay_66 (by decide) ?_
          refine r_drop (ls2 := []) [] rfl ?_
          exact hk11 _ _ hF
      · have hF := if_t h18 hF
        refine r_bipush (v := (-12 : Int32)) C dX11_lay_42 rfl ?_
        exact r_ireturn C dX11_lay_44 (rt_e hF)
    · have hF := if_t h19 hF
      refine r_bipush (v := (-11 : Int32)) C dX11_lay_21 rfl ?_
      exact r_ireturn C dX11_lay_23 (rt_e hF)
  · have hF := if_t h20 hF
    refine r_iconst (v := (-1 : Int32)) C dX11_lay_8 rfl ?_
    exact r_ireturn C dX11_lay_9 (rt_e hF)
def F_X11_takesBack (a1 : Int32) (a2 : Int32) (σ : St) : Option (Unit × St) :=
  ck (inb (176 : Int32) 576) (nam (uI σ (41, 0, 0) 176 a1) fun σ2 => ck (inb (174 : Int32) 576) (nam (uI σ2 (41, 0, 0) 174 a2) fun σ4 => some ((), σ4)))
set_option maxRecDepth 20000 in
set_option maxHeartbeats 4000000 in
theorem s_X11_takesBack (G : Gx) (l : Launch) {a1 : Int32} {a2 : Int32} {σ σ' : St}  (hF : F_X11_takesBack a1 a2 σ = some ((), σ')) : Sp G l yX11_takesBack cX11_takesBack 3 none (lvl 0) [vR (40, 0, 0), vI a1, vI a2] σ (va_Qv (fun b => b = σ') (Wd G) (AG G)) := by
  refine Sp_of (own := RX11) (by decide) rfl (Nat.le_of_ble_eq_true rfl) ?_
  intro p e s m args below meth c C
  show Rt G p l e (lvl 0) s m args below meth c 0 0 (MQ below (va_Qv (fun b => b = σ') (Wd G) (AG G)) args s 0 0 (AG G)) 3 0 [(0, vR (40, 0, 0)), (1, vI a1), (2, vI a2)] [] σ
  unfold F_X11_takesBack at hF
  refine r_aload_n C 0 0 dX11_takesBack_0 rfl rfl ?_
  refine r_getR (kf := 0) (d2 := (41, 0, 0)) C dX11_takesBack_1 rfl rfl f_X11 (by decide) t_5_58 rfl rfl ?_
  refine r_sipush (v := (176 : Int32)) C dX11_takesBack_4 rfl ?_
  refine r_iload_n C 1 1 dX11_takesBack_7 rfl rfl ?_
  obtain ⟨h1, hF⟩ := ck_e hF
  obtain ⟨σ2, eσ2, hF⟩ := nam_e hF
  refine r_iastore C 176 dX11_takesBack_8 rfl h1 rfl eσ2 ?_
  refine r_aload_n C 0 0 dX11_takesBack_9 rfl rfl ?_
  refine r_getR (kf := 0) (d2 := (41, 0, 0)) C dX11_takesBack_10 rfl rfl f_X11 (by decide) t_5_58 rfl rfl ?_
  refine r_sipush (v := (174 : Int32)) C dX11_takesBack_13 rfl ?_
  refine r_iload_n C 2 2 dX11_takesBack_16 rfl rfl ?_
  obtain ⟨h3, hF⟩ := ck_e hF
  obtain ⟨σ4, eσ4, hF⟩ := nam_e hF
  refine r_iastore C 174 dX11_takesBack_17 rfl h3 rfl eσ4 ?_
  exact r_return C dX11_takesBack_18 (rv_e hF)
def L_X11_read_67 (c1 : Int32) (c2 : Int32) (c3 : Int32) (c4 : Int32) (c5 : Int32) (c6 : Int32) (c8 : Int32) (c9 : Int32) : Nat → Int32 → Int32 → St → (Int32 → St → Option (Int32 × St)) → Option (Int32 × St)
  | 0, _, _, _, _ => none
  | n + 1, v7, v10, τ, kx154 =>
  (if (3 : Int32) ≤ v10 then kx154 v7 τ else (if v7 = 0 then nam (((c3.toInt64) + (((3 : Int32) * c9).toInt64)) + (v10.toInt64)) fun x11 => ck (inb c1 4) (nam (fun (y13 : Int32) (σ15 : St) => nam (v10 + (1 : Int32)) fun x16 => L_X11_read_67 c1 c2 c3 c4 c5 c6 c8 c9 n y13 x16 σ15 kx154) fun k14 => (if (τ.1 (52, 0, 0) (c1.toNatClampNeg)) = (-4 : Int32) then k14 (1 : Int32) τ else ck (inb c1 4) ((if (τ.1 (52, 0, 0) (c1.toNatClampNeg)) = c2 then (if (lg_cmp x11 (0 : Int64)) < 0 then k14 (2 : Int32) τ else ck (inb c1 4) ((if (lg_cmp x11 ((τ.1 (53, 0, 0) (c1.toNatClampNeg)).toInt64)) < 0 then k14 (0 : Int32) τ else k14 (2 : Int32) τ))) else k14 (3 : Int32) τ)))) else kx154 v7 τ))
def L_X11_read_52 (c1 : Int32) (c2 : Int32) (c3 : Int32) (c4 : Int32) (c5 : Int32) (c6 : Int32) : Nat → Int32 → Int32 → Int32 → St → (Int32 → Int32 → St → Option (Int32 × St)) → (Int32 → Int32 → St → Option (Int32 × St)) → Option (Int32 × St)
  | 0, _, _, _, _, _, _ => none
  | n + 1, v7, v8, v9, τ, kx208, kx243 =>
  (if c4 ≤ v9 then kx243 v7 v8 τ else (if v7 = 0 then L_X11_read_67 c1 c2 c3 c4 c5 c6 v8 v9 FU v7 (0 : Int32) τ (fun (y26 : Int32) (σ25 : St) => (if y26 = 0 then ck (inb ((((40 : Int32) * c1) + c3) + ((3 : Int32) * v9)) 160) (ck (inb (((((40 : Int32) * c1) + c3) + ((3 : Int32) * v9)) + (1 : Int32)) 160) (ck (inb (((((40 : Int32) * c1) + c3) + ((3 : Int32) * v9)) + (2 : Int32)) 160) (bd (F_X11_drop (σ25.1 (54, 0, 0) (((((40 : Int32) * c1) + c3) + ((3 : Int32) * v9)).toNatClampNeg)) (σ25.1 (54, 0, 0) ((((((40 : Int32) * c1) + c3) + ((3 : Int32) * v9)) + (1 : Int32)).toNatClampNeg)) (σ25.1 (54, 0, 0) ((((((40 : Int32) * c1) + c3) + ((3 : Int32) * v9)) + (2 : Int32)).toNatClampNeg)) σ25) fun r32 σ31 => (if 0 ≤ r32 then nam (v8 + (1 : Int32)) fun x34 => nam (v9 + (1 : Int32)) fun x35 => L_X11_read_52 c1 c2 c3 c4 c5 c6 n y26 x34 x35 σ31 kx208 kx243 else kx208 v9 r32 σ31)))) else nam (v9 + (1 : Int32)) fun x27 => L_X11_read_52 c1 c2 c3 c4 c5 c6 n y26 v8 x27 σ25 kx208 kx243)) else kx243 v7 v8 τ))
def F_X11_read (a1 : Int32) (a2 : Int32) (a3 : Int32) (a4 : Int32) (σ : St) : Option (Int32 × St) :=
  bd (F_X11_isSheet a1 a2 σ) fun r2 σ1 => (if r2 = 0 then some ((-1 : Int32), σ1) else bd (F_X11_in (a4.toInt64) (0 : Int64) (12 : Int64) σ1) fun r5 σ4 => (if r5 = 0 then some ((-1 : Int32), σ4) else ck (inb (176 : Int32) 576) (nam (σ4.1 (41, 0, 0) 176) fun x8 => ck (inb (174 : Int32) 576) (nam (σ4.1 (41, 0, 0) 174) fun x10 => L_X11_read_52 a1 a2 a3 a4 x8 x10 FU (0 : Int32) (0 : Int32) (0 : Int32) σ4 (fun (y41 : Int32) (y42 : Int32) (σ40 : St) => bd (F_X11_takesBack x8 x10 σ40) fun _ σ43 => (if y42 = (-3 : Int32) then some ((-3 : Int32), σ43) else some ((-20 : Int32) - y41, σ43))) (fun (y47 : Int32) (y48 : Int32) (σ46 : St) => nam (uI σ46 (40, 0, 0) 28 y47) fun σ49 => some (y48, σ49))))))
set_option maxRecDepth 20000 in
set_option maxHeartbeats 4000000 in
theorem l_X11_read_67 {G : Gx} {p : Program} {l : Launch} {e : Env} {s : State} {m : MethodId} {args : Array Value} {below : List Frame} {meth : Method} {c : Code} (C : Cx G p s m args meth c (some .int) 13 RX11 cX11_read) (c1 : Int32) (c2 : Int32) (c3 : Int32) (c4 : Int32) (c5 : Int32) (c6 : Int32) (c8 : Int32) (c9 : Int32) {σ' : St} {r : Int32} (kx154 : Int32 → St → Option (Int32 × St)) (hkx154 : ∀ (w7 : Int32) (τ : St), kx154 w7 τ = some (r, σ') → Rt G p l e (lvl 4) s m args below meth c 0 0 (MQ below (va_Qi (fun a b => a = r ∧ b = σ') (Wd G) (AG G)) args s 0 0 (AG G)) 13 154 [(0, vR (40, 0, 0)), (1, vI c1), (2, vI c2), (3, vI c3), (4, vI c4), (5, vI c5), (6, vI c6), (7, vI w7), (8, vI c8), (9, vI c9)] [] τ) : ∀ (n : Nat) (v7 : Int32) (v10 : Int32) (τ : St), L_X11_read_67 c1 c2 c3 c4 c5 c6 c8 c9 n v7 v10 τ kx154 = some (r, σ') → Rt G p l e (lvl 4) s m args below meth c 0 0 (MQ below (va_Qi (fun a b => a = r ∧ b = σ') (Wd G) (AG G)) args s 0 0 (AG G)) 13 67 [(0, vR (40, 0, 0)), (1, vI c1), (2, vI c2), (3, vI c3), (4, vI c4), (5, vI c5), (6, vI c6), (7, vI v7), (8, vI c8), (9, vI c9), (10, vI v10)] [] τ := by
  intro n
  induction n with
  | zero => intro v7 v10 τ hF; cases hF
  | succ n ih =>
    intro v7 v10 τ hF
    unfold L_X11_read_67 at hF
    refine r_iload C 10 dX11_read_67 rfl ?_
    refine r_iconst (v := (3 : Int32)) C dX11_read_69 rfl ?_
    refine r_icmp_ge C 154 dX11_read_70 (by decide)  (fun h24 => ?_) (fun h24 => ?_)
    · have hF := if_t h24 hF
      refine r_drop (ls2 := [(0, vR (40, 0, 0)), (1, vI c1), (2, vI c2), (3, vI c3), (4, vI c4), (5, vI c5), (6, vI c6), (7, vI v7), (8, vI c8), (9, vI c9)]) [0, 1, 2, 3, 4, 5, 6, 7, 8, 9] rfl ?_
      exact hkx154 _ _ hF
    · have hF := if_f h24 hF
      refine r_iload C 7 dX11_read_73 rfl ?_
      refine r_if_ne C 154 dX11_read_75 (by decide)  (fun h23 => ?_) (fun h23 => ?_)
      · have hF := if_f h23 hF
        refine r_drop (ls2 := [(0, vR (40, 0, 0)), (1, vI c1), (2, vI c2), (3, vI c3), (4, vI c4), (5, vI c5), (6, vI c6), (7, vI v7), (8, vI c8), (9, vI c9)]) [0, 1, 2, 3, 4, 5, 6, 7, 8, 9] rfl ?_
        exact hkx154 _ _ hF
      · have hF := if_t h23 hF
        refine r_iload_n C 3 3 dX11_read_78 rfl rfl ?_
        refine r_i2l C dX11_read_79 ?_
        refine r_iconst (v := (3 : Int32)) C dX11_read_80 rfl ?_
        refine r_iload C 9 dX11_read_81 rfl ?_
        refine r_imul C dX11_read_83 ?_
        refine r_i2l C dX11_read_84 ?_
        refine r_ladd C dX11_read_85 ?_
        refine r_iload C 10 dX11_read_86 rfl ?_
        refine r_i2l C dX11_read_88 ?_
        refine r_ladd C dX11_read_89 ?_
        obtain ⟨x11, ex11, hF⟩ := nam_e hF
        refine r_topL ex11 ?_
        refine r_lstore (ls2 := [(11, vL x11), (0, vR (40, 0, 0)), (1, vI c1), (2, vI c2), (3, vI c3), (4, vI c4), (5, vI c5), (6, vI c6), (7, vI v7), (8, vI c8), (9, vI c9), (10, vI v10)]) C dX11_read_90 (by decide) rfl ?_
        refine r_aload_n C 1 0 dX11_read_92 rfl rfl ?_
        refine r_getR (kf := 25) (d2 := (52, 0, 0)) C dX11_read_93 rfl rfl f_X11 (by decide) t_5_83 rfl rfl ?_
        refine r_iload_n C 2 1 dX11_read_96 rfl rfl ?_
        obtain ⟨h12, hF⟩ := ck_e hF
        refine r_iaload C (c1.toNatClampNeg) dX11_read_97 rfl h12 rfl ?_
        refine r_bipush (v := (-4 : Int32)) C dX11_read_98 rfl ?_
        obtain ⟨k14, ek14, hF⟩ := nam_e hF
        have hk14 : ∀ (y13 : Int32) (σ15 : St), k14 y13 σ15 = some (r, σ') → Rt G p l e (lvl 4) s m args below meth c 0 0 (MQ below (va_Qi (fun a b => a = r ∧ b = σ') (Wd G) (AG G)) args s 0 0 (AG G)) 13 146 [(0, vR (40, 0, 0)), (1, vI c1), (2, vI c2), (3, vI c3), (4, vI c4), (5, vI c5), (6, vI c6), (8, vI c8), (9, vI c9), (10, vI v10)] [vI y13] σ15 := by
          intro y13 σ15 hF
          subst ek14
          refine r_istore (ls2 := [(7, vI y13), (0, vR (40, 0, 0)), (1, vI c1), (2, vI c2), (3, vI c3), (4, vI c4), (5, vI c5), (6, vI c6), (8, vI c8), (9, vI c9), (10, vI v10)]) C dX11_read_146 (by decide) rfl ?_
          obtain ⟨x16, ex16, hF⟩ := nam_e hF
          refine r_iinc (v := x16) (ls2 := [(10, vI x16), (7, vI y13), (0, vR (40, 0, 0)), (1, vI c1), (2, vI c2), (3, vI c3), (4, vI c4), (5, vI c5), (6, vI c6), (8, vI c8), (9, vI c9)]) C 10 dX11_read_148 rfl ex16.symm (by decide) rfl ?_
          refine r_goto C 67 dX11_read_151 (by decide) ?_
          refine r_drop (ls2 := [(0, vR (40, 0, 0)), (1, vI c1), (2, vI c2), (3, vI c3), (4, vI c4), (5, vI c5), (6, vI c6), (7, vI y13), (8, vI c8), (9, vI c9), (10, vI x16)]) [2, 3, 4, 5, 6, 7, 8, 1, 9, 10, 0] rfl ?_
          exact ih _ _ _ hF
        refine r_icmp_ne C 107 dX11_read_100 (by decide)  (fun h22 => ?_) (fun h22 => ?_)
        · have hF := if_f h22 hF
          refine r_aload_n C 1 0 dX11_read_107 rfl rfl ?_
          refine r_getR (kf := 25) (d2 := (52, 0, 0)) C dX11_read_108 rfl rfl f_X11 (by decide) t_5_83 rfl rfl ?_
          refine r_iload_n C 2 1 dX11_read_111 rfl rfl ?_
          obtain ⟨h17, hF⟩ := ck_e hF
          refine r_iaload C (c1.toNatClampNeg) dX11_read_112 rfl h17 rfl ?_
          refine r_iload_n C 3 2 dX11_read_113 rfl rfl ?_
          refine r_icmp_eq C 121 dX11_read_114 (by decide)  (fun h21 => ?_) (fun h21 => ?_)
          · have hF := if_t h21 hF
            refine r_lload C 0 dX11_read_121 rfl ?_
            refine r_lconst (v := (0 : Int64)) C dX11_read_123 rfl ?_
            refine r_lcmp C dX11_read_124 ?_
            refine r_if_lt C 141 dX11_read_125 (by decide)  (fun h20 => ?_) (fun h20 => ?_)
            · have hF := if_t h20 hF
              refine r_iconst (v := (2 : Int32)) C dX11_read_141 rfl ?_
              refine r_goto C 146 dX11_read_142 (by decide) ?_
              refine r_drop (ls2 := [(0, vR (40, 0, 0)), (1, vI c1), (2, vI c2), (3, vI c3), (4, vI c4), (5, vI c5), (6, vI c6), (8, vI c8), (9, vI c9), (10, vI v10)]) [1, 2, 3, 4, 5, 6, 7, 9, 10, 11] rfl ?_
              exact hk14 _ _ hF
            · have hF := if_f h20 hF
              refine r_lload C 0 dX11_read_128 rfl ?_
              refine r_aload_n C 1 0 dX11_read_130 rfl rfl ?_
              refine r_getR (kf := 26) (d2 := (53, 0, 0)) C dX11_read_131 rfl rfl f_X11 (by decide) t_5_84 rfl rfl ?_
              refine r_iload_n C 2 1 dX11_read_134 rfl rfl ?_
              obtain ⟨h18, hF⟩ := ck_e hF
              refine r_iaload C (c1.toNatClampNeg) dX11_read_135 rfl h18 rfl ?_
              refine r_i2l C dX11_read_136 ?_
              refine r_lcmp C dX11_read_137 ?_
              refine r_if_lt C 145 dX11_read_138 (by decide)  (fun h19 => ?_) (fun h19 => ?_)
              · have hF := if_t h19 hF
                refine r_iconst (v := (0 : Int32)) C dX11_read_145 rfl ?_
                refine r_drop (ls2 := [(0, vR (40, 0, 0)), (1, vI c1), (2, vI c2), (3, vI c3), (4, vI c4), (5, vI c5), (6, vI c6), (8, vI c8), (9, vI c9), (10, vI v10)]) [1, 2, 3, 4, 5, 6, 7, 9, 10, 11] rfl ?_
                exact hk14 _ _ hF
              · have hF := if_f h19 hF
                refine r_iconst (v := (2 : Int32)) C dX11_read_141 rfl ?_
                refine r_goto C 146 dX11_read_142 (by decide) ?_
                refine r_drop (ls2 := [(0, vR (40, 0, 0)), (1, vI c1), (2, vI c2), (3, vI c3), (4, vI c4), (5, vI c5), (6, vI c6), (8, vI c8), (9, vI c9), (10, vI v10)]) [1, 2, 3, 4, 5, 6, 7, 9, 10, 11] rfl ?_
                exact hk14 _ _ hF
          · have hF := if_f h21 hF
            refine r_iconst (v := (3 : Int32)) C dX11_read_117 rfl ?_
            refine r_goto C 146 dX11_read_118 (by decide) ?_
            refine r_drop (ls2 := [(0, vR (40, 0, 0)), (1, vI c1), (2, vI c2), (3, vI c3), (4, vI c4), (5, vI c5), (6, vI c6), (8, vI c8), (9, vI c9), (10, vI v10)]) [1, 2, 3, 4, 5, 6, 7, 9, 10, 11] rfl ?_
            exact hk14 _ _ hF
        · have hF := if_t h22 hF
          refine r_iconst (v := (1 : Int32)) C dX11_read_103 rfl ?_
          refine r_goto C 146 dX11_read_104 (by decide) ?_
          refine r_drop (ls2 := [(0, vR (40, 0, 0)), (1, vI c1), (2, vI c2), (3, vI c3), (4, vI c4), (5, vI c5), (6, vI c6), (8, vI c8), (9, vI c9), (10, vI v10)]) [1, 2, 3, 4, 5, 6, 7, 9, 10, 11] rfl ?_
          exact hk14 _ _ hF
set_option maxRecDepth 20000 in
set_option maxHeartbeats 4000000 in
theorem l_X11_read_52 {G : Gx} {p : Program} {l : Launch} {e : Env} {s : State} {m : MethodId} {args : Array Value} {below : List Frame} {meth : Method} {c : Code} (C : Cx G p s m args meth c (some .int) 13 RX11 cX11_read) (c1 : Int32) (c2 : Int32) (c3 : Int32) (c4 : Int32) (c5 : Int32) (c6 : Int32) {σ' : St} {r : Int32} (kx208 : Int32 → Int32 → St → Option (Int32 × St)) (hkx208 : ∀ (w9 : Int32) (w11 : Int32) (τ : St), kx208 w9 w11 τ = some (r, σ') → Rt G p l e (lvl 4) s m args below meth c 0 0 (MQ below (va_Qi (fun a b => a = r ∧ b = σ') (Wd G) (AG G)) args s 0 0 (AG G)) 13 208 [(0, vR (40, 0, 0)), (5, vI c5), (6, vI c6), (9, vI w9), (11, vI w11)] [] τ) (kx243 : Int32 → Int32 → St → Option (Int32 × St)) (hkx243 : ∀ (w7 : Int32) (w8 : Int32) (τ : St), kx243 w7 w8 τ = some (r, σ') → Rt G p l e (lvl 4) s m args below meth c 0 0 (MQ below (va_Qi (fun a b => a = r ∧ b = σ') (Wd G) (AG G)) args s 0 0 (AG G)) 13 243 [(0, vR (40, 0, 0)), (7, vI w7), (8, vI w8)] [] τ) : ∀ (n : Nat) (v7 : Int32) (v8 : Int32) (v9 : Int32) (τ : St), L_X11_read_52 c1 c2 c3 c4 c5 c6 n v7 v8 v9 τ kx208 kx243 = some (r, σ') → Rt G p l e (lvl 4) s m args below meth c 0 0 (MQ below (va_Qi (fun a b => a = r ∧ b = σ') (Wd G) (AG G)) args s 0 0 (AG G)) 13 52 [(0, vR (40, 0, 0)), (1, vI c1), (2, vI c2), (3, vI c3), (4, vI c4), (5, vI c5), (6, vI c6), (7, vI v7), (8, vI v8), (9, vI v9)] [] τ := by
  intro n
  induction n with
  | zero => intro v7 v8 v9 τ hF; cases hF
  | succ n ih =>
    intro v7 v8 v9 τ hF
    unfold L_X11_read_52 at hF
    refine r_iload C 9 dX11_read_52 rfl ?_
    refine r_iload C 4 dX11_read_54 rfl ?_
    refine r_icmp_ge C 243 dX11_read_56 (by decide)  (fun h39 => ?_) (fun h39 => ?_)
    · have hF := if_t h39 hF
      refine r_drop (ls2 := [(0, vR (40, 0, 0)), (7, vI v7), (8, vI v8)]) [0, 7, 8] rfl ?_
      exact hkx243 _ _ _ hF
    · have hF := if_f h39 hF
      refine r_iload C 7 dX11_read_59 rfl ?_
      refine r_if_ne C 243 dX11_read_61 (by decide)  (fun h38 => ?_) (fun h38 => ?_)
      · have hF := if_f h38 hF
        refine r_drop (ls2 := [(0, vR (40, 0, 0)), (7, vI v7), (8, vI v8)]) [0, 7, 8] rfl ?_
        exact hkx243 _ _ _ hF
      · have hF := if_t h38 hF
        refine r_iconst (v := (0 : Int32)) C dX11_read_64 rfl ?_
        refine r_istore (ls2 := [(10, vI (0 : Int32)), (0, vR (40, 0, 0)), (1, vI c1), (2, vI c2), (3, vI c3), (4, vI c4), (5, vI c5), (6, vI c6), (7, vI v7), (8, vI v8), (9, vI v9)]) C dX11_read_65 (by decide) rfl ?_
        refine r_drop (ls2 := [(0, vR (40, 0, 0)), (1, vI c1), (2, vI c2), (3, vI c3), (4, vI c4), (5, vI c5), (6, vI c6), (7, vI v7), (8, vI v8), (9, vI v9), (10, vI (0 : Int32))]) [1, 2, 3, 4, 5, 6, 7, 8, 9, 10, 0] rfl ?_
        refine l_X11_read_67 C c1 c2 c3 c4 c5 c6 v8 v9 _ ?_ _ _ _ _ hF
        · intro y26 σ25 hF
          refine r_iload C 7 dX11_read_154 rfl ?_
          refine r_if_ne C 237 dX11_read_156 (by decide)  (fun h37 => ?_) (fun h37 => ?_)
          · have hF := if_f h37 hF
            obtain ⟨x27, ex27, hF⟩ := nam_e hF
            refine r_iinc (v := x27) (ls2 := [(9, vI x27), (0, vR (40, 0, 0)), (1, vI c1), (2, vI c2), (3, vI c3), (4, vI c4), (5, vI c5), (6, vI c6), (7, vI y26), (8, vI v8)]) C 9 dX11_read_237 rfl ex27.symm (by decide) rfl ?_
            refine r_goto C 52 dX11_read_240 (by decide) ?_
            refine r_drop (ls2 := [(0, vR (40, 0, 0)), (1, vI c1), (2, vI c2), (3, vI c3), (4, vI c4), (5, vI c5), (6, vI c6), (7, vI y26), (8, vI v8), (9, vI x27)]) [1, 2, 3, 4, 5, 6, 7, 8, 9, 0] rfl ?_
            exact ih _ _ _ _ hF
          · have hF := if_t h37 hF
            refine r_bipush (v := (40 : Int32)) C dX11_read_159 rfl ?_
            refine r_iload_n C 1 1 dX11_read_161 rfl rfl ?_
            refine r_imul C dX11_read_162 ?_
            refine r_iload_n C 3 3 dX11_read_163 rfl rfl ?_
            refine r_iadd C dX11_read_164 ?_
            refine r_iconst (v := (3 : Int32)) C dX11_read_165 rfl ?_
            refine r_iload C 9 dX11_read_166 rfl ?_
            refine r_imul C dX11_read_168 ?_
            refine r_iadd C dX11_read_169 ?_
            refine r_istore (ls2 := [(10, vI ((((40 : Int32) * c1) + c3) + ((3 : Int32) * v9))), (0, vR (40, 0, 0)), (1, vI c1), (2, vI c2), (3, vI c3), (4, vI c4), (5, vI c5), (6, vI c6), (7, vI y26), (8, vI v8), (9, vI v9)]) C dX11_read_170 (by decide) rfl ?_
            refine r_aload_n C 1 0 dX11_read_172 rfl rfl ?_
            refine r_aload_n C 1 0 dX11_read_173 rfl rfl ?_
            refine r_getR (kf := 27) (d2 := (54, 0, 0)) C dX11_read_174 rfl rfl f_X11 (by decide) t_5_85 rfl rfl ?_
            refine r_iload C 0 dX11_read_177 rfl ?_
            obtain ⟨h28, hF⟩ := ck_e hF
            refine r_iaload C (((((40 : Int32) * c1) + c3) + ((3 : Int32) * v9)).toNatClampNeg) dX11_read_179 rfl h28 rfl ?_
            refine r_aload_n C 1 0 dX11_read_180 rfl rfl ?_
            refine r_getR (kf := 27) (d2 := (54, 0, 0)) C dX11_read_181 rfl rfl f_X11 (by decide) t_5_85 rfl rfl ?_
            refine r_iload C 0 dX11_read_184 rfl ?_
            refine r_iconst (v := (1 : Int32)) C dX11_read_186 rfl ?_
            refine r_iadd C dX11_read_187 ?_
            obtain ⟨h29, hF⟩ := ck_e hF
            refine r_iaload C ((((((40 : Int32) * c1) + c3) + ((3 : Int32) * v9)) + (1 : Int32)).toNatClampNeg) dX11_read_188 rfl h29 rfl ?_
            refine r_aload_n C 1 0 dX11_read_189 rfl rfl ?_
            refine r_getR (kf := 27) (d2 := (54, 0, 0)) C dX11_read_190 rfl rfl f_X11 (by decide) t_5_85 rfl rfl ?_
            refine r_iload C 0 dX11_read_193 rfl ?_
            refine r_iconst (v := (2 : Int32)) C dX11_read_195 rfl ?_
            refine r_iadd C dX11_read_196 ?_
            obtain ⟨h30, hF⟩ := ck_e hF
            refine r_iaload C ((((((40 : Int32) * c1) + c3) + ((3 : Int32) * v9)) + (2 : Int32)).toNatClampNeg) dX11_read_197 rfl h30 rfl ?_
            obtain ⟨r32, σ31, e33, hF⟩ := bd_e hF
            refine r_callV_i (as := [vI (σ25.1 (54, 0, 0) (((((40 : Int32) * c1) + c3) + ((3 : Int32) * v9)).toNatClampNeg)), vI (σ25.1 (54, 0, 0) ((((((40 : Int32) * c1) + c3) + ((3 : Int32) * v9)) + (1 : Int32)).toNatClampNeg)), vI (σ25.1 (54, 0, 0) ((((((40 : Int32) * c1) + c3) + ((3 : Int32) * v9)) + (2 : Int32)).toNatClampNeg))]) (st := []) C dX11_read_198 (s_X11_drop G l e33) rfl rfl rfl t_7_5 t_6_11 t_6_12 t_1_14 t_6_13 m_X11_drop ⟨Nat.le_of_ble_eq_true rfl, Nat.le_of_ble_eq_true rfl⟩ ⟨rfl, rfl⟩ ⟨Nat.zero_le _, Nat.zero_le _⟩ rfl (Nat.le_of_ble_eq_true rfl) ?_
            refine r_istore (ls2 := [(11, vI r32), (10, vI ((((40 : Int32) * c1) + c3) + ((3 : Int32) * v9))), (0, vR (40, 0, 0)), (1, vI c1), (2, vI c2), (3, vI c3), (4, vI c4), (5, vI c5), (6, vI c6), (7, vI y26), (8, vI v8), (9, vI v9)]) C dX11_read_201 (by decide) rfl ?_
            refine r_iload C 0 dX11_read_203 rfl ?_
            refine r_if_ge C 234 dX11_read_205 (by decide)  (fun h36 => ?_) (fun h36 => ?_)
            · have hF := if_t h36 hF
              obtain ⟨x34, ex34, hF⟩ := nam_e hF
              refine r_iinc (v := x34) (ls2 := [(8, vI x34), (11, vI r32), (10, vI ((((40 : Int32) * c1) + c3) + ((3 : Int32) * v9))), (0, vR (40, 0, 0)), (1, vI c1), (2, vI c2), (3, vI c3), (4, vI c4), (5, vI c5), (6, vI c6), (7, vI y26), (9, vI v9)]) C 10 dX11_read_234 rfl ex34.symm (by decide) rfl ?_
              obtain ⟨x35, ex35, hF⟩ := nam_e hF
              refine r_iinc (v := x35) (ls2 := [(9, vI x35), (8, vI x34), (11, vI r32), (10, vI ((((40 : Int32) * c1) + c3) + ((3 : Int32) * v9))), (0, vR (40, 0, 0)), (1, vI c1), (2, vI c2), (3, vI c3), (4, vI c4), (5, vI c5), (6, vI c6), (7, vI y26)]) C 11 dX11_read_237 rfl ex35.symm (by decide) rfl ?_
              refine r_goto C 52 dX11_read_240 (by decide) ?_
              refine r_drop (ls2 := [(0, vR (40, 0, 0)), (1, vI c1), (2, vI c2), (3, vI c3), (4, vI c4), (5, vI c5), (6, vI c6), (7, vI y26), (8, vI x34), (9, vI x35)]) [4, 5, 6, 7, 8, 9, 10, 11, 1, 0] rfl ?_
              exact ih _ _ _ _ hF
            · have hF := if_f h36 hF
              refine r_drop (ls2 := [(0, vR (40, 0, 0)), (5, vI c5), (6, vI c6), (9, vI v9), (11, vI r32)]) [2, 7, 8, 11, 0] rfl ?_
              exact hkx208 _ _ _ hF
set_option maxRecDepth 20000 in
set_option maxHeartbeats 4000000 in
theorem s_X11_read (G : Gx) (l : Launch) {a1 : Int32} {a2 : Int32} {a3 : Int32} {a4 : Int32} {σ σ' : St} {r : Int32} (hF : F_X11_read a1 a2 a3 a4 σ = some (r, σ')) : Sp G l yX11_read cX11_read 13 (some .int) (lvl 4) [vR (40, 0, 0), vI a1, vI a2, vI a3, vI a4] σ (va_Qi (fun a b => a = r ∧ b = σ') (Wd G) (AG G)) := by
  refine Sp_of (own := RX11) (by decide) rfl (Nat.le_of_ble_eq_true rfl) ?_
  intro p e s m args below meth c C
  show Rt G p l e (lvl 4) s m args below meth c 0 0 (MQ below (va_Qi (fun a b => a = r ∧ b = σ') (Wd G) (AG G)) args s 0 0 (AG G)) 13 0 [(0, vR (40, 0, 0)), (1, vI a1), (2, vI a2), (3, vI a3), (4, vI a4)] [] σ
  unfold F_X11_read at hF
  refine r_iload_n C 1 1 dX11_read_0 rfl rfl ?_
  refine r_iload_n C 2 2 dX11_read_1 rfl rfl ?_
  obtain ⟨r2, σ1, e3, hF⟩ := bd_e hF
  refine r_callS_i (as := [vI a1, vI a2]) (st := []) C dX11_read_2 (s_X11_isSheet G l e3) t_6_233 t_6_234 t_1_14 t_6_235 m_X11_isSheet ⟨Nat.le_of_ble_eq_true rfl, Nat.le_of_ble_eq_true rfl⟩ ⟨rfl, rfl⟩ ⟨Nat.zero_le _, Nat.zero_le _⟩ rfl (Nat.le_of_ble_eq_true rfl) ?_
  refine r_if_eq C 21 dX11_read_5 (by decide)  (fun h51 => ?_) (fun h51 => ?_)
  · have hF := if_t h51 hF
    refine r_iconst (v := (-1 : Int32)) C dX11_read_21 rfl ?_
    exact r_ireturn C dX11_read_22 (rt_e hF)
  · have hF := if_f h51 hF
    refine r_iload C 4 dX11_read_8 rfl ?_
    refine r_i2l C dX11_read_10 ?_
    refine r_lconst (v := (0 : Int64)) C dX11_read_11 rfl ?_
    refine r_ldc2_w (v := (12 : Int64)) C dX11_read_12 t_7_4 ?_
    obtain ⟨r5, σ4, e6, hF⟩ := bd_e hF
    refine r_callS_i (as := [vL (a4.toInt64), vL (0 : Int64), vL (12 : Int64)]) (st := []) C dX11_read_15 (s_X11_in G l e6) t_5_155 t_5_156 t_1_14 t_5_157 m_X11_in ⟨Nat.le_of_ble_eq_true rfl, Nat.le_of_ble_eq_true rfl⟩ ⟨rfl, rfl⟩ ⟨Nat.zero_le _, Nat.zero_le _⟩ rfl (Nat.le_of_ble_eq_true rfl) ?_
    refine r_if_ne C 23 dX11_read_18 (by decide)  (fun h50 => ?_) (fun h50 => ?_)
    · have hF := if_f h50 hF
      refine r_aload_n C 0 0 dX11_read_23 rfl rfl ?_
      refine r_getR (kf := 0) (d2 := (41, 0, 0)) C dX11_read_24 rfl rfl f_X11 (by decide) t_5_58 rfl rfl ?_
      refine r_sipush (v := (176 : Int32)) C dX11_read_27 rfl ?_
      obtain ⟨h7, hF⟩ := ck_e hF
      refine r_iaload C 176 dX11_read_30 rfl h7 rfl ?_
      obtain ⟨x8, ex8, hF⟩ := nam_e hF
      refine r_topI ex8 ?_
      refine r_istore (ls2 := [(5, vI x8), (0, vR (40, 0, 0)), (1, vI a1), (2, vI a2), (3, vI a3), (4, vI a4)]) C dX11_read_31 (by decide) rfl ?_
      refine r_aload_n C 1 0 dX11_read_33 rfl rfl ?_
      refine r_getR (kf := 0) (d2 := (41, 0, 0)) C dX11_read_34 rfl rfl f_X11 (by decide) t_5_58 rfl rfl ?_
      refine r_sipush (v := (174 : Int32)) C dX11_read_37 rfl ?_
      obtain ⟨h9, hF⟩ := ck_e hF
      refine r_iaload C 174 dX11_read_40 rfl h9 rfl ?_
      obtain ⟨x10, ex10, hF⟩ := nam_e hF
      refine r_topI ex10 ?_
      refine r_istore (ls2 := [(6, vI x10), (5, vI x8), (0, vR (40, 0, 0)), (1, vI a1), (2, vI a2), (3, vI a3), (4, vI a4)]) C dX11_read_41 (by decide) rfl ?_
      refine r_iconst (v := (0 : Int32)) C dX11_read_43 rfl ?_
      refine r_istore (ls2 := [(7, vI (0 : Int32)), (6, vI x10), (5, vI x8), (0, vR (40, 0, 0)), (1, vI a1), (2, vI a2), (3, vI a3), (4, vI a4)]) C dX11_read_44 (by decide) rfl ?_
      refine r_iconst (v := (0 : Int32)) C dX11_read_46 rfl ?_
      refine r_istore (ls2 := [(8, vI (0 : Int32)), (7, vI (0 : Int32)), (6, vI x10), (5, vI x8), (0, vR (40, 0, 0)), (1, vI a1), (2, vI a2), (3, vI a3), (4, vI a4)]) C dX11_read_47 (by decide) rfl ?_
      refine r_iconst (v := (0 : Int32)) C dX11_read_49 rfl ?_
      refine r_istore (ls2 := [(9, vI (0 : Int32)), (8, vI (0 : Int32)), (7, vI (0 : Int32)), (6, vI x10), (5, vI x8), (0, vR (40, 0, 0)), (1, vI a1), (2, vI a2), (3, vI a3), (4, vI a4)]) C dX11_read_50 (by decide) rfl ?_
      refine r_drop (ls2 := [(0, vR (40, 0, 0)), (1, vI a1), (2, vI a2), (3, vI a3), (4, vI a4), (5, vI x8), (6, vI x10), (7, vI (0 : Int32)), (8, vI (0 : Int32)), (9, vI (0 : Int32))]) [5, 6, 7, 8, 9, 4, 3, 2, 1, 0] rfl ?_
      refine l_X11_read_52 C a1 a2 a3 a4 x8 x10 _ ?_ _ ?_ _ _ _ _ _ hF
      · intro y41 y42 σ40 hF
        refine r_aload_n C 0 0 dX11_read_208 rfl rfl ?_
        refine r_iload C 1 dX11_read_209 rfl ?_
        refine r_iload C 2 dX11_read_211 rfl ?_
        obtain ⟨⟨⟩, σ43, e44, hF⟩ := bd_e hF
        refine r_callV_v (as := [vI x8, vI x10]) (st := []) C dX11_read_213 (s_X11_takesBack G l e44) rfl rfl rfl t_7_6 t_7_8 t_s_58 t_1_14 t_7_9 m_X11_takesBack ⟨Nat.le_of_ble_eq_true rfl, Nat.le_of_ble_eq_true rfl⟩ ⟨rfl, rfl⟩ ⟨Nat.zero_le _, Nat.zero_le _⟩ rfl (Nat.le_of_ble_eq_true rfl) ?_
        refine r_iload C 4 dX11_read_216 rfl ?_
        refine r_bipush (v := (-3 : Int32)) C dX11_read_218 rfl ?_
        refine r_icmp_ne C 228 dX11_read_220 (by decide)  (fun h45 => ?_) (fun h45 => ?_)
        · have hF := if_f h45 hF
          refine r_bipush (v := (-20 : Int32)) C dX11_read_228 rfl ?_
          refine r_iload C 3 dX11_read_230 rfl ?_
          refine r_isub C dX11_read_232 ?_
          exact r_ireturn C dX11_read_233 (rt_e hF)
        · have hF := if_t h45 hF
          refine r_bipush (v := (-3 : Int32)) C dX11_read_223 rfl ?_
          refine r_goto C 233 dX11_read_225 (by decide) ?_
          exact r_ireturn C dX11_read_233 (rt_e hF)
      · intro y47 y48 σ46 hF
        refine r_aload_n C 0 0 dX11_read_243 rfl rfl ?_
        refine r_iload C 1 dX11_read_244 rfl ?_
        obtain ⟨σ49, eσ49, hF⟩ := nam_e hF
        refine r_put (kf := 28) (ty0 := tyX11) C dX11_read_246 rfl rfl f_X11 tyX11_ok nmX11 (by decide) t_5_86 rfl rfl rfl rfl eσ49 ?_
        refine r_iload C 2 dX11_read_249 rfl ?_
        exact r_ireturn C dX11_read_251 (rt_e hF)
    · have hF := if_t h50 hF
      refine r_iconst (v := (-1 : Int32)) C dX11_read_21 rfl ?_
      exact r_ireturn C dX11_read_22 (rt_e hF)
def F_X11_torn  (σ : St) : Option (Int32 × St) :=
  some (σ.1 (40, 0, 0) 28, σ)
set_option maxRecDepth 20000 in
set_option maxHeartbeats 4000000 in
theorem s_X11_torn (G : Gx) (l : Launch)  {σ σ' : St} {r : Int32} (hF : F_X11_torn  σ = some (r, σ')) : Sp G l yX11_torn cX11_torn 1 (some .int) (lvl 0) [vR (40, 0, 0)] σ (va_Qi (fun a b => a = r ∧ b = σ') (Wd G) (AG G)) := by
  refine Sp_of (own := RX11) (by decide) rfl (Nat.le_of_ble_eq_true rfl) ?_
  intro p e s m args below meth c C
  show Rt G p l e (lvl 0) s m args below meth c 0 0 (MQ below (va_Qi (fun a b => a = r ∧ b = σ') (Wd G) (AG G)) args s 0 0 (AG G)) 1 0 [(0, vR (40, 0, 0))] [] σ
  unfold F_X11_torn at hF
  refine r_aload_n C 0 0 dX11_torn_0 rfl rfl ?_
  refine r_getI (kf := 28) C dX11_torn_1 rfl rfl f_X11 (by decide) t_5_86 rfl ?_
  exact r_ireturn C dX11_torn_4 (rt_e hF)
def L_X11_count_4 (c1 : Int32) : Nat → Int32 → Int32 → St → (Int32 → St → Option (Int32 × St)) → Option (Int32 × St)
  | 0, _, _, _, _ => none
  | n + 1, v2, v3, τ, kx38 =>
  (if (96 : Int32) ≤ v3 then kx38 v2 τ else ck (inb v3 576) (nam (fun (y2 : Int32) (σ4 : St) => bd (F_X11_flag y2 σ4) fun r6 σ5 => nam (v2 + r6) fun x8 => nam (v3 + (1 : Int32)) fun x9 => L_X11_count_4 c1 n x8 x9 σ5 kx38) fun k3 => (if (τ.1 (41, 0, 0) (v3.toNatClampNeg)) = (6 : Int32) then k3 (1 : Int32) τ else k3 (0 : Int32) τ)))
def F_X11_count (a1 : Int32) (σ : St) : Option (Int32 × St) :=
  L_X11_count_4 a1 FU (0 : Int32) (0 : Int32) σ (fun (y13 : Int32) (σ12 : St) => (if a1 = (0 : Int32) then ck (inb (176 : Int32) 576) (some (σ12.1 (41, 0, 0) 176, σ12)) else (if a1 = (1 : Int32) then bd (F_X11_thereMany  σ12) fun r18 σ17 => some (r18, σ17) else (if a1 = (2 : Int32) then some (σ12.1 (40, 0, 0) 23, σ12) else (if a1 = (3 : Int32) then ck (inb (0 : Int32) 2) (bd (F_X11_flag (σ12.1 (42, 0, 0) 0) σ12) fun r24 σ23 => ck (inb (1 : Int32) 2) (bd (F_X11_flag (σ23.1 (42, 0, 0) 1) σ23) fun r28 σ27 => some (r24 + r28, σ27))) else (if a1 = (4 : Int32) then some (y13, σ12) else (if a1 = (5 : Int32) then some (σ12.1 (40, 0, 0) 8, σ12) else (if a1 = (6 : Int32) then ck (inb (0 : Int32) 4) ((if (σ12.1 (52, 0, 0) 0) = (-4 : Int32) then some ((-4 : Int32), σ12) else ck (inb (0 : Int32) 4) (some (σ12.1 (53, 0, 0) 0, σ12)))) else some ((-1 : Int32), σ12)))))))))
set_option maxRecDepth 20000 in
set_option maxHeartbeats 4000000 in
theorem l_X11_count_4 {G : Gx} {p : Program} {l : Launch} {e : Env} {s : State} {m : MethodId} {args : Array Value} {below : List Frame} {meth : Method} {c : Code} (C : Cx G p s m args meth c (some .int) 4 RX11 cX11_count) (c1 : Int32) {σ' : St} {r : Int32} (kx38 : Int32 → St → Option (Int32 × St)) (hkx38 : ∀ (w2 : Int32) (τ : St), kx38 w2 τ = some (r, σ') → Rt G p l e (lvl 2) s m args below meth c 0 0 (MQ below (va_Qi (fun a b => a = r ∧ b = σ') (Wd G) (AG G)) args s 0 0 (AG G)) 4 38 [(0, vR (40, 0, 0)), (1, vI c1), (2, vI w2)] [] τ) : ∀ (n : Nat) (v2 : Int32) (v3 : Int32) (τ : St), L_X11_count_4 c1 n v2 v3 τ kx38 = some (r, σ') → Rt G p l e (lvl 2) s m args below meth c 0 0 (MQ below (va_Qi (fun a b => a = r ∧ b = σ') (Wd G) (AG G)) args s 0 0 (AG G)) 4 4 [(0, vR (40, 0, 0)), (1, vI c1), (2, vI v2), (3, vI v3)] [] τ := by
  intro n
  induction n with
  | zero => intro v2 v3 τ hF; cases hF
  | succ n ih =>
    intro v2 v3 τ hF
    unfold L_X11_count_4 at hF
    refine r_iload_n C 3 3 dX11_count_4 rfl rfl ?_
    refine r_bipush (v := (96 : Int32)) C dX11_count_5 rfl ?_
    refine r_icmp_ge C 38 dX11_count_7 (by decide)  (fun h11 => ?_) (fun h11 => ?_)
    · have hF := if_t h11 hF
      refine r_drop (ls2 := [(0, vR (40, 0, 0)), (1, vI c1), (2, vI v2)]) [0, 1, 2] rfl ?_
      exact hkx38 _ _ hF
    · have hF := if_f h11 hF
      refine r_iload_n C 2 2 dX11_count_10 rfl rfl ?_
      refine r_aload_n C 0 0 dX11_count_11 rfl rfl ?_
      refine r_getR (kf := 0) (d2 := (41, 0, 0)) C dX11_count_12 rfl rfl f_X11 (by decide) t_5_58 rfl rfl ?_
      refine r_iload_n C 3 3 dX11_count_15 rfl rfl ?_
      obtain ⟨h1, hF⟩ := ck_e hF
      refine r_iaload C (v3.toNatClampNeg) dX11_count_16 rfl h1 rfl ?_
      refine r_bipush (v := (6 : Int32)) C dX11_count_17 rfl ?_
      obtain ⟨k3, ek3, hF⟩ := nam_e hF
      have hk3 : ∀ (y2 : Int32) (σ4 : St), k3 y2 σ4 = some (r, σ') → Rt G p l e (lvl 2) s m args below meth c 0 0 (MQ below (va_Qi (fun a b => a = r ∧ b = σ') (Wd G) (AG G)) args s 0 0 (AG G)) 4 27 [(0, vR (40, 0, 0)), (1, vI c1), (3, vI v3)] [vI y2, vI v2] σ4 := by
        intro y2 σ4 hF
        subst ek3
        obtain ⟨r6, σ5, e7, hF⟩ := bd_e hF
        refine r_callS_i (as := [vI y2]) (st := [vI v2]) C dX11_count_27 (s_X11_flag G l e7) t_5_197 t_5_198 t_1_14 t_5_199 m_X11_flag ⟨Nat.le_of_ble_eq_true rfl, Nat.le_of_ble_eq_true rfl⟩ ⟨rfl, rfl⟩ ⟨Nat.zero_le _, Nat.zero_le _⟩ rfl (Nat.le_of_ble_eq_true rfl) ?_
        refine r_iadd C dX11_count_30 ?_
        obtain ⟨x8, ex8, hF⟩ := nam_e hF
        refine r_topI ex8 ?_
        refine r_istore_n (ls2 := [(2, vI x8), (0, vR (40, 0, 0)), (1, vI c1), (3, vI v3)]) C dX11_count_31 2 rfl (by decide) rfl ?_
        obtain ⟨x9, ex9, hF⟩ := nam_e hF
        refine r_iinc (v := x9) (ls2 := [(3, vI x9), (2, vI x8), (0, vR (40, 0, 0)), (1, vI c1)]) C 3 dX11_count_32 rfl ex9.symm (by decide) rfl ?_
        refine r_goto C 4 dX11_count_35 (by decide) ?_
        refine r_drop (ls2 := [(0, vR (40, 0, 0)), (1, vI c1), (2, vI x8), (3, vI x9)]) [2, 3, 1, 0] rfl ?_
        exact ih _ _ _ hF
      refine r_icmp_ne C 26 dX11_count_19 (by decide)  (fun h10 => ?_) (fun h10 => ?_)
      · have hF := if_f h10 hF
        refine r_iconst (v := (0 : Int32)) C dX11_count_26 rfl ?_
        refine r_drop (ls2 := [(0, vR (40, 0, 0)), (1, vI c1), (3, vI v3)]) [0, 1, 3] rfl ?_
        exact hk3 _ _ hF
      · have hF := if_t h10 hF
        refine r_iconst (v := (1 : Int32)) C dX11_count_22 rfl ?_
        refine r_goto C 27 dX11_count_23 (by decide) ?_
        refine r_drop (ls2 := [(0, vR (40, 0, 0)), (1, vI c1), (3, vI v3)]) [0, 1, 3] rfl ?_
        exact hk3 _ _ hF
set_option maxRecDepth 20000 in
set_option maxHeartbeats 4000000 in
theorem s_X11_count (G : Gx) (l : Launch) {a1 : Int32} {σ σ' : St} {r : Int32} (hF : F_X11_count a1 σ = some (r, σ')) : Sp G l yX11_count cX11_count 4 (some .int) (lvl 2) [vR (40, 0, 0), vI a1] σ (va_Qi (fun a b => a = r ∧ b = σ') (Wd G) (AG G)) := by
  refine Sp_of (own := RX11) (by decide) rfl (Nat.le_of_ble_eq_true rfl) ?_
  intro p e s m args below meth c C
  show Rt G p l e (lvl 2) s m args below meth c 0 0 (MQ below (va_Qi (fun a b => a = r ∧ b = σ') (Wd G) (AG G)) args s 0 0 (AG G)) 4 0 [(0, vR (40, 0, 0)), (1, vI a1)] [] σ
  unfold F_X11_count at hF
  refine r_iconst (v := (0 : Int32)) C dX11_count_0 rfl ?_
  refine r_istore_n (ls2 := [(2, vI (0 : Int32)), (0, vR (40, 0, 0)), (1, vI a1)]) C dX11_count_1 2 rfl (by decide) rfl ?_
  refine r_iconst (v := (0 : Int32)) C dX11_count_2 rfl ?_
  refine r_istore_n (ls2 := [(3, vI (0 : Int32)), (2, vI (0 : Int32)), (0, vR (40, 0, 0)), (1, vI a1)]) C dX11_count_3 3 rfl (by decide) rfl ?_
  refine r_drop (ls2 := [(0, vR (40, 0, 0)), (1, vI a1), (2, vI (0 : Int32)), (3, vI (0 : Int32))]) [2, 3, 1, 0] rfl ?_
  refine l_X11_count_4 C a1 _ ?_ _ _ _ _ hF
  · intro y13 σ12 hF
    refine r_iload_n C 1 1 dX11_count_38 rfl rfl ?_
    by_cases h14 : a1 = (0 : Int32)
    · have hF := if_t h14 hF
      refine r_tabIn (off := 41) C 80 dX11_count_39 (by rw [h14]; decide) (by rw [h14]; decide) (by rw [h14]; rfl) (by decide) ?_
      refine r_aload_n C 0 0 dX11_count_80 rfl rfl ?_
      refine r_getR (kf := 0) (d2 := (41, 0, 0)) C dX11_count_81 rfl rfl f_X11 (by decide) t_5_58 rfl rfl ?_
      refine r_sipush (v := (176 : Int32)) C dX11_count_84 rfl ?_
      obtain ⟨h15, hF⟩ := ck_e hF
      refine r_iaload C 176 dX11_count_87 rfl h15 rfl ?_
      exact r_ireturn C dX11_count_88 (rt_e hF)
    have hF := if_f h14 hF
    by_cases h16 : a1 = (1 : Int32)
    · have hF := if_t h16 hF
      refine r_tabIn (off := 50) C 89 dX11_count_39 (by rw [h16]; decide) (by rw [h16]; decide) (by rw [h16]; rfl) (by decide) ?_
      refine r_aload_n C 0 0 dX11_count_89 rfl rfl ?_
      obtain ⟨r18, σ17, e19, hF⟩ := bd_e hF
      refine r_callV_i (as := []) (st := []) C dX11_count_90 (s_X11_thereMany G l e19) rfl rfl rfl t_6_72 t_6_74 t_s_45 t_1_14 t_6_75 m_X11_thereMany ⟨Nat.le_of_ble_eq_true rfl, Nat.le_of_ble_eq_true rfl⟩ ⟨rfl, rfl⟩ ⟨Nat.zero_le _, Nat.zero_le _⟩ rfl (Nat.le_of_ble_eq_true rfl) ?_
      exact r_ireturn C dX11_count_93 (rt_e hF)
    have hF := if_f h16 hF
    by_cases h20 : a1 = (2 : Int32)
    · have hF := if_t h20 hF
      refine r_tabIn (off := 55) C 94 dX11_count_39 (by rw [h20]; decide) (by rw [h20]; decide) (by rw [h20]; rfl) (by decide) ?_
      refine r_aload_n C 0 0 dX11_count_94 rfl rfl ?_
      refine r_getI (kf := 23) C dX11_count_95 rfl rfl f_X11 (by decide) t_5_81 rfl ?_
      exact r_ireturn C dX11_count_98 (rt_e hF)
    have hF := if_f h20 hF
    by_cases h21 : a1 = (3 : Int32)
    · have hF := if_t h21 hF
      refine r_tabIn (off := 60) C 99 dX11_count_39 (by rw [h21]; decide) (by rw [h21]; decide) (by rw [h21]; rfl) (by decide) ?_
      refine r_aload_n C 0 0 dX11_count_99 rfl rfl ?_
      refine r_getR (kf := 1) (d2 := (42, 0, 0)) C dX11_count_100 rfl rfl f_X11 (by decide) t_5_59 rfl rfl ?_
      refine r_iconst (v := (0 : Int32)) C dX11_count_103 rfl ?_
      obtain ⟨h22, hF⟩ := ck_e hF
      refine r_zaload C 0 dX11_count_104 rfl h22 rfl ?_
      obtain ⟨r24, σ23, e25, hF⟩ := bd_e hF
      refine r_callS_i (as := [vI (σ12.1 (42, 0, 0) 0)]) (st := []) C dX11_count_105 (s_X11_flag G l e25) t_5_197 t_5_198 t_1_14 t_5_199 m_X11_flag ⟨Nat.le_of_ble_eq_true rfl, Nat.le_of_ble_eq_true rfl⟩ ⟨rfl, rfl⟩ ⟨Nat.zero_le _, Nat.zero_le _⟩ rfl (Nat.le_of_ble_eq_true rfl) ?_
      refine r_aload_n C 0 0 dX11_count_108 rfl rfl ?_
      refine r_getR (kf := 1) (d2 := (42, 0, 0)) C dX11_count_109 rfl rfl f_X11 (by decide) t_5_59 rfl rfl ?_
      refine r_iconst (v := (1 : Int32)) C dX11_count_112 rfl ?_
      obtain ⟨h26, hF⟩ := ck_e hF
      refine r_zaload C 1 dX11_count_113 rfl h26 rfl ?_
      obtain ⟨r28, σ27, e29, hF⟩ := bd_e hF
      refine r_callS_i (as := [vI (σ23.1 (42, 0, 0) 1)]) (st := [vI r24]) C dX11_count_114 (s_X11_flag G l e29) t_5_197 t_5_198 t_1_14 t_5_199 m_X11_flag ⟨Nat.le_of_ble_eq_true rfl, Nat.le_of_ble_eq_true rfl⟩ ⟨rfl, rfl⟩ ⟨Nat.zero_le _, Nat.zero_le _⟩ rfl (Nat.le_of_ble_eq_true rfl) ?_
      refine r_iadd C dX11_count_117 ?_
      exact r_ireturn C dX11_count_118 (rt_e hF)
    have hF := if_f h21 hF
    by_cases h30 : a1 = (4 : Int32)
    · have hF := if_t h30 hF
      refine r_tabIn (off := 80) C 119 dX11_count_39 (by rw [h30]; decide) (by rw [h30]; decide) (by rw [h30]; rfl) (by decide) ?_
      refine r_iload_n C 2 2 dX11_count_119 rfl rfl ?_
      exact r_ireturn C dX11_count_120 (rt_e hF)
    have hF := if_f h30 hF
    by_cases h31 : a1 = (5 : Int32)
    · have hF := if_t h31 hF
      refine r_tabIn (off := 82) C 121 dX11_count_39 (by rw [h31]; decide) (by rw [h31]; decide) (by rw [h31]; rfl) (by decide) ?_
      refine r_aload_n C 0 0 dX11_count_121 rfl rfl ?_
      refine r_getI (kf := 8) C dX11_count_122 rfl rfl f_X11 (by decide) t_5_66 rfl ?_
      exact r_ireturn C dX11_count_125 (rt_e hF)
    have hF := if_f h31 hF
    by_cases h32 : a1 = (6 : Int32)
    · have hF := if_t h32 hF
      refine r_tabIn (off := 87) C 126 dX11_count_39 (by rw [h32]; decide) (by rw [h32]; decide) (by rw [h32]; rfl) (by decide) ?_
      refine r_aload_n C 0 0 dX11_count_126 rfl rfl ?_
      refine r_getR (kf := 25) (d2 := (52, 0, 0)) C dX11_count_127 rfl rfl f_X11 (by decide) t_5_83 rfl rfl ?_
      refine r_iconst (v := (0 : Int32)) C dX11_count_130 rfl ?_
      obtain ⟨h33, hF⟩ := ck_e hF
      refine r_iaload C 0 dX11_count_131 rfl h33 rfl ?_
      refine r_bipush (v := (-4 : Int32)) C dX11_count_132 rfl ?_
      refine r_icmp_ne C 142 dX11_count_134 (by decide)  (fun h35 => ?_) (fun h35 => ?_)
      · have hF := if_f h35 hF
        refine r_aload_n C 0 0 dX11_count_142 rfl rfl ?_
        refine r_getR (kf := 26) (d2 := (53, 0, 0)) C dX11_count_143 rfl rfl f_X11 (by decide) t_5_84 rfl rfl ?_
        refine r_iconst (v := (0 : Int32)) C dX11_count_146 rfl ?_
        obtain ⟨h34, hF⟩ := ck_e hF
        refine r_iaload C 0 dX11_count_147 rfl h34 rfl ?_
        exact r_ireturn C dX11_count_148 (rt_e hF)
      · have hF := if_t h35 hF
        refine r_bipush (v := (-4 : Int32)) C dX11_count_137 rfl ?_
        refine r_goto C 148 dX11_count_139 (by decide) ?_
        exact r_ireturn C dX11_count_148 (rt_e hF)
    have hF := if_f h32 hF
    refine r_tabOut C 149 dX11_count_39 (by have u0 := lv_neT h14 (a := 0) rfl; have u1 := lv_neT h16 (a := 1) rfl; have u2 := lv_neT h20 (a := 2) rfl; have u3 := lv_neT h21 (a := 3) rfl; have u4 := lv_neT h30 (a := 4) rfl; have u5 := lv_neT h31 (a := 5) rfl; have u6 := lv_neT h32 (a := 6) rfl; omega) (by decide) ?_
    refine r_iconst (v := (-1 : Int32)) C dX11_count_149 rfl ?_
    exact r_ireturn C dX11_count_150 (rt_e hF)
