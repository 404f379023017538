def F_X10_at (a1 : Int32) (σ : St) : Option (Int32 × St) :=
  bd (F_X10_isCell a1 σ) fun r2 σ1 => (if r2 = 0 then some ((-1 : Int32), σ1) else bd (F_X6_dropAt 0 a1 σ1) fun r5 σ4 => some (r5, σ4))
set_option maxRecDepth 20000 in
set_option maxHeartbeats 4000000 in
theorem s_X10_at (G : Gx) (l : Launch) {a1 : Int32} {σ σ' : St} {r : Int32} (hF : F_X10_at a1 σ = some (r, σ')) : Sp G l yX10_at cX10_at 2 (some .int) (lvl 1) [vR (0, 0, 0), vI a1] σ (va_Qi (fun a b => a = r ∧ b = σ') (Wd G) (AG G)) := by
  refine Sp_of (own := RX10) (by decide) rfl (Nat.le_of_ble_eq_true rfl) ?_
  intro p e s m args below meth c C
  show Rt G p l e (lvl 1) s m args below meth c 0 0 (MQ below (va_Qi (fun a b => a = r ∧ b = σ') (Wd G) (AG G)) args s 0 0 (AG G)) 2 0 [(0, vR (0, 0, 0)), (1, vI a1)] [] σ
  unfold F_X10_at at hF
  refine r_iload_n C 1 1 dX10_at_0 rfl rfl ?_
  obtain ⟨r2, σ1, e3, hF⟩ := bd_e hF
  refine r_callS_i (as := [vI a1]) (st := []) C dX10_at_1 (s_X10_isCell G l e3) t_3_118 t_3_119 t_1_1 t_3_120 m_X10_isCell ⟨Nat.le_of_ble_eq_true rfl, Nat.le_of_ble_eq_true rfl⟩ ⟨rfl, rfl⟩ ⟨Nat.zero_le _, Nat.zero_le _⟩ rfl (Nat.le_of_ble_eq_true rfl) ?_
  refine r_if_eq C 18 dX10_at_4 (by decide)  (fun h7 => ?_) (fun h7 => ?_)
  · have hF := if_t h7 hF
    refine r_iconst (v := (-1 : Int32)) C dX10_at_18 rfl ?_
    exact r_ireturn C dX10_at_19 (rt_e hF)
  · have hF := if_f h7 hF
    refine r_aload_n C 0 0 dX10_at_7 rfl rfl ?_
    refine r_getR (kf := 4) (d2 := (7, 0, 0)) C dX10_at_8 rfl rfl f_X10 (by decide) t_2_100 rfl rfl ?_
    refine r_iload_n C 1 1 dX10_at_11 rfl rfl ?_
    obtain ⟨r5, σ4, e6, hF⟩ := bd_e hF
    refine r_callV_i (as := [vI a1]) (st := []) C dX10_at_12 (s_X6_dropAt G l e6) rfl rfl rfl t_3_129 t_3_130 t_3_131 t_1_5 t_3_132 m_X6_dropAt ⟨Nat.le_of_ble_eq_true rfl, Nat.le_of_ble_eq_true rfl⟩ ⟨rfl, rfl⟩ ⟨Nat.zero_le _, Nat.zero_le _⟩ rfl (Nat.le_of_ble_eq_true rfl) ?_
    refine r_goto C 19 dX10_at_15 (by decide) ?_
    exact r_ireturn C dX10_at_19 (rt_e hF)
def L_X6_sizesThere_4 (q0 : Nat) : Nat → Int32 → Int32 → St → Option (Int32 × St)
  | 0, _, _, _ => none
  | n + 1, v1, v2, τ =>
  (if (τ.1 (7, q0, 0) 2) ≤ v2 then some (v1, τ) else ck (inb v2 12) (nam (fun (y2 : Int32) (σ4 : St) => nam (v1 + y2) fun x5 => nam (v2 + (1 : Int32)) fun x6 => L_X6_sizesThere_4 q0 n x5 x6 σ4) fun k3 => (if (τ.1 (10, q0, (v2.toNatClampNeg)) 3) = 0 then ck (inb v2 12) (k3 (τ.1 (10, q0, (v2.toNatClampNeg)) 1) τ) else k3 (0 : Int32) τ)))
def F_X6_sizesThere (q0 : Nat) (σ : St) : Option (Int32 × St) :=
  L_X6_sizesThere_4 q0 FU (0 : Int32) (0 : Int32) σ 
set_option maxRecDepth 20000 in
set_option maxHeartbeats 4000000 in
theorem l_X6_sizesThere_4 {G : Gx} {p : Program} {l : Launch} {e : Env} {s : State} {m : MethodId} {args : Array Value} {below : List Frame} {meth : Method} {c : Code} (C : Cx G p s m args meth c (some .int) 3 RX6 cX6_sizesThere) (q0 : Nat) {σ' : St} {r : Int32} : ∀ (n : Nat) (v1 : Int32) (v2 : Int32) (τ : St), L_X6_sizesThere_4 q0 n v1 v2 τ = some (r, σ') → Rt G p l e (lvl 0) s m args below meth c 0 0 (MQ below (va_Qi (fun a b => a = r ∧ b = σ') (Wd G) (AG G)) args s 0 0 (AG G)) 3 4 [(0, vR (7, q0, 0)), (1, vI v1), (2, vI v2)] [] τ := by
  intro n
  induction n with
  | zero => intro v1 v2 τ hF; cases hF
  | succ n ih =>
    intro v1 v2 τ hF
    unfold L_X6_sizesThere_4 at hF
    refine r_iload_n C 2 2 dX6_sizesThere_4 rfl rfl ?_
    refine r_aload_n C 0 0 dX6_sizesThere_5 rfl rfl ?_
    refine r_getI (kf := 2) C dX6_sizesThere_6 rfl rfl f_X6 (by decide) t_1_159 rfl ?_
    refine r_icmp_ge C 46 dX6_sizesThere_9 (by decide)  (fun h9 => ?_) (fun h9 => ?_)
    · have hF := if_t h9 hF
      refine r_iload_n C 1 1 dX6_sizesThere_46 rfl rfl ?_
      exact r_ireturn C dX6_sizesThere_47 (rt_e hF)
    · have hF := if_f h9 hF
      refine r_iload_n C 1 1 dX6_sizesThere_12 rfl rfl ?_
      refine r_aload_n C 0 0 dX6_sizesThere_13 rfl rfl ?_
      refine r_getR (kf := 1) (d2 := (9, q0, 0)) C dX6_sizesThere_14 rfl rfl f_X6 (by decide) t_1_156 rfl rfl ?_
      refine r_iload_n C 2 2 dX6_sizesThere_17 rfl rfl ?_
      obtain ⟨h1, hF⟩ := ck_e hF
      refine r_aaload (cA := 0) (d2 := (10, q0, (v2.toNatClampNeg))) C dX6_sizesThere_18 rfl rfl h1 rfl ?_
      refine r_getI (kf := 3) C dX6_sizesThere_19 rfl rfl f_X0 (by decide) t_1_132 rfl ?_
      obtain ⟨k3, ek3, hF⟩ := nam_e hF
      have hk3 : ∀ (y2 : Int32) (σ4 : St), k3 y2 σ4 = some (r, σ') → Rt G p l e (lvl 0) s m args below meth c 0 0 (MQ below (va_Qi (fun a b => a = r ∧ b = σ') (Wd G) (AG G)) args s 0 0 (AG G)) 3 38 [(0, vR (7, q0, 0)), (2, vI v2)] [vI y2, vI v1] σ4 := by
        intro y2 σ4 hF
        subst ek3
        refine r_iadd C dX6_sizesThere_38 ?_
        obtain ⟨x5, ex5, hF⟩ := nam_e hF
        refine r_topI ex5 ?_
        refine r_istore_n (ls2 := [(1, vI x5), (0, vR (7, q0, 0)), (2, vI v2)]) C dX6_sizesThere_39 1 rfl (by decide) rfl ?_
        obtain ⟨x6, ex6, hF⟩ := nam_e hF
        refine r_iinc (v := x6) (ls2 := [(2, vI x6), (1, vI x5), (0, vR (7, q0, 0))]) C 2 dX6_sizesThere_40 rfl ex6.symm (by decide) rfl ?_
        refine r_goto C 4 dX6_sizesThere_43 (by decide) ?_
        refine r_drop (ls2 := [(0, vR (7, q0, 0)), (1, vI x5), (2, vI x6)]) [2, 1, 0] rfl ?_
        exact ih _ _ _ hF
      refine r_if_ne C 37 dX6_sizesThere_22 (by decide)  (fun h8 => ?_) (fun h8 => ?_)
      · have hF := if_f h8 hF
        refine r_iconst (v := (0 : Int32)) C dX6_sizesThere_37 rfl ?_
        refine r_drop (ls2 := [(0, vR (7, q0, 0)), (2, vI v2)]) [0, 2] rfl ?_
        exact hk3 _ _ hF
      · have hF := if_t h8 hF
        refine r_aload_n C 0 0 dX6_sizesThere_25 rfl rfl ?_
        refine r_getR (kf := 1) (d2 := (9, q0, 0)) C dX6_sizesThere_26 rfl rfl f_X6 (by decide) t_1_156 rfl rfl ?_
        refine r_iload_n C 2 2 dX6_sizesThere_29 rfl rfl ?_
        obtain ⟨h7, hF⟩ := ck_e hF
        refine r_aaload (cA := 0) (d2 := (10, q0, (v2.toNatClampNeg))) C dX6_sizesThere_30 rfl rfl h7 rfl ?_
        refine r_getI (kf := 1) C dX6_sizesThere_31 rfl rfl f_X0 (by decide) t_1_124 rfl ?_
        refine r_goto C 38 dX6_sizesThere_34 (by decide) ?_
        refine r_drop (ls2 := [(0, vR (7, q0, 0)), (2, vI v2)]) [0, 2] rfl ?_
        exact hk3 _ _ hF
set_option maxRecDepth 20000 in
set_option maxHeartbeats 4000000 in
theorem s_X6_sizesThere (G : Gx) (l : Launch) {q0 : Nat} {σ σ' : St} {r : Int32} (hF : F_X6_sizesThere q0 σ = some (r, σ')) : Sp G l yX6_sizesThere cX6_sizesThere 3 (some .int) (lvl 0) [vR (7, q0, 0)] σ (va_Qi (fun a b => a = r ∧ b = σ') (Wd G) (AG G)) := by
  refine Sp_of (own := RX6) (by decide) rfl (Nat.le_of_ble_eq_true rfl) ?_
  intro p e s m args below meth c C
  show Rt G p l e (lvl 0) s m args below meth c 0 0 (MQ below (va_Qi (fun a b => a = r ∧ b = σ') (Wd G) (AG G)) args s 0 0 (AG G)) 3 0 [(0, vR (7, q0, 0))] [] σ
  unfold F_X6_sizesThere at hF
  refine r_iconst (v := (0 : Int32)) C dX6_sizesThere_0 rfl ?_
  refine r_istore_n (ls2 := [(1, vI (0 : Int32)), (0, vR (7, q0, 0))]) C dX6_sizesThere_1 1 rfl (by decide) rfl ?_
  refine r_iconst (v := (0 : Int32)) C dX6_sizesThere_2 rfl ?_
  refine r_istore_n (ls2 := [(2, vI (0 : Int32)), (1, vI (0 : Int32)), (0, vR (7, q0, 0))]) C dX6_sizesThere_3 2 rfl (by decide) rfl ?_
  refine r_drop (ls2 := [(0, vR (7, q0, 0)), (1, vI (0 : Int32)), (2, vI (0 : Int32))]) [2, 1, 0] rfl ?_
  refine l_X6_sizesThere_4 C q0  _ _ _ _ hF
def F_X10_now (a1 : Int32) (σ : St) : Option (Int32 × St) :=
  (if a1 = (0 : Int32) then some (σ.1 (7, 0, 0) 4, σ) else (if a1 = (1 : Int32) then some (σ.1 (7, 0, 0) 3, σ) else (if a1 = (2 : Int32) then (if (σ.1 (7, 0, 0) 6) = 0 then some ((0 : Int32), σ) else some ((1 : Int32), σ)) else (if a1 = (3 : Int32) then bd (F_X6_sizesThere 0 σ) fun r7 σ6 => some (r7, σ6) else (if a1 = (4 : Int32) then some (σ.1 (7, 0, 0) 7, σ) else (if a1 = (5 : Int32) then some (σ.1 (7, 0, 0) 8, σ) else (if a1 = (6 : Int32) then some (σ.1 (7, 0, 0) 9, σ) else (if a1 = (7 : Int32) then some (σ.1 (7, 0, 0) 10, σ) else some ((-1 : Int32), σ)))))))))
set_option maxRecDepth 20000 in
set_option maxHeartbeats 4000000 in
theorem s_X10_now (G : Gx) (l : Launch) {a1 : Int32} {σ σ' : St} {r : Int32} (hF : F_X10_now a1 σ = some (r, σ')) : Sp G l yX10_now cX10_now 2 (some .int) (lvl 1) [vR (0, 0, 0), vI a1] σ (va_Qi (fun a b => a = r ∧ b = σ') (Wd G) (AG G)) := by
  refine Sp_of (own := RX10) (by decide) rfl (Nat.le_of_ble_eq_true rfl) ?_
  intro p e s m args below meth c C
  show Rt G p l e (lvl 1) s m args below meth c 0 0 (MQ below (va_Qi (fun a b => a = r ∧ b = σ') (Wd G) (AG G)) args s 0 0 (AG G)) 2 0 [(0, vR (0, 0, 0)), (1, vI a1)] [] σ
  unfold F_X10_now at hF
  refine r_iload_n C 1 1 dX10_now_0 rfl rfl ?_
  by_cases h1 : a1 = (0 : Int32)
  · have hF := if_t h1 hF
    refine r_tabIn (off := 47) C 48 dX10_now_1 (by rw [h1]; decide) (by rw [h1]; decide) (by rw [h1]; rfl) (by decide) ?_
    refine r_aload_n C 0 0 dX10_now_48 rfl rfl ?_
    refine r_getR (kf := 4) (d2 := (7, 0, 0)) C dX10_now_49 rfl rfl f_X10 (by decide) t_2_100 rfl rfl ?_
    refine r_getI (kf := 4) C dX10_now_52 rfl rfl f_X6 (by decide) t_1_164 rfl ?_
    exact r_ireturn C dX10_now_55 (rt_e hF)
  have hF := if_f h1 hF
  by_cases h2 : a1 = (1 : Int32)
  · have hF := if_t h2 hF
    refine r_tabIn (off := 55) C 56 dX10_now_1 (by rw [h2]; decide) (by rw [h2]; decide) (by rw [h2]; rfl) (by decide) ?_
    refine r_aload_n C 0 0 dX10_now_56 rfl rfl ?_
    refine r_getR (kf := 4) (d2 := (7, 0, 0)) C dX10_now_57 rfl rfl f_X10 (by decide) t_2_100 rfl rfl ?_
    refine r_getI (kf := 3) C dX10_now_60 rfl rfl f_X6 (by decide) t_1_162 rfl ?_
    exact r_ireturn C dX10_now_63 (rt_e hF)
  have hF := if_f h2 hF
  by_cases h3 : a1 = (2 : Int32)
  · have hF := if_t h3 hF
    refine r_tabIn (off := 63) C 64 dX10_now_1 (by rw [h3]; decide) (by rw [h3]; decide) (by rw [h3]; rfl) (by decide) ?_
    refine r_aload_n C 0 0 dX10_now_64 rfl rfl ?_
    refine r_getR (kf := 4) (d2 := (7, 0, 0)) C dX10_now_65 rfl rfl f_X10 (by decide) t_2_100 rfl rfl ?_
    refine r_getI (kf := 6) C dX10_now_68 rfl rfl f_X6 (by decide) t_1_168 rfl ?_
    refine r_if_eq C 78 dX10_now_71 (by decide)  (fun h4 => ?_) (fun h4 => ?_)
    · have hF := if_t h4 hF
      refine r_iconst (v := (0 : Int32)) C dX10_now_78 rfl ?_
      exact r_ireturn C dX10_now_79 (rt_e hF)
    · have hF := if_f h4 hF
      refine r_iconst (v := (1 : Int32)) C dX10_now_74 rfl ?_
      refine r_goto C 79 dX10_now_75 (by decide) ?_
      exact r_ireturn C dX10_now_79 (rt_e hF)
  have hF := if_f h3 hF
  by_cases h5 : a1 = (3 : Int32)
  · have hF := if_t h5 hF
    refine r_tabIn (off := 79) C 80 dX10_now_1 (by rw [h5]; decide) (by rw [h5]; decide) (by rw [h5]; rfl) (by decide) ?_
    refine r_aload_n C 0 0 dX10_now_80 rfl rfl ?_
    refine r_getR (kf := 4) (d2 := (7, 0, 0)) C dX10_now_81 rfl rfl f_X10 (by decide) t_2_100 rfl rfl ?_
    obtain ⟨r7, σ6, e8, hF⟩ := bd_e hF
    refine r_callV_i (as := []) (st := []) C dX10_now_84 (s_X6_sizesThere G l e8) rfl rfl rfl t_4_23 t_4_24 t_4_25 t_1_5 t_4_26 m_X6_sizesThere ⟨Nat.le_of_ble_eq_true rfl, Nat.le_of_ble_eq_true rfl⟩ ⟨rfl, rfl⟩ ⟨Nat.zero_le _, Nat.zero_le _⟩ rfl (Nat.le_of_ble_eq_true rfl) ?_
    exact r_ireturn C dX10_now_87 (rt_e hF)
  have hF := if_f h5 hF
  by_cases h9 : a1 = (4 : Int32)
  · have hF := if_t h9 hF
    refine r_tabIn (off := 87) C 88 dX10_now_1 (by rw [h9]; decide) (by rw [h9]; decide) (by rw [h9]; rfl) (by decide) ?_
    refine r_aload_n C 0 0 dX10_now_88 rfl rfl ?_
    refine r_getR (kf := 4) (d2 := (7, 0, 0)) C dX10_now_89 rfl rfl f_X10 (by decide) t_2_100 rfl rfl ?_
    refine r_getI (kf := 7) C dX10_now_92 rfl rfl f_X6 (by decide) t_1_170 rfl ?_
    exact r_ireturn C dX10_now_95 (rt_e hF)
  have hF := if_f h9 hF
  by_cases h10 : a1 = (5 : Int32)
  · have hF := if_t h10 hF
    refine r_tabIn (off := 95) C 96 dX10_now_1 (by rw [h10]; decide) (by rw [h10]; decide) (by rw [h10]; rfl) (by decide) ?_
    refine r_aload_n C 0 0 dX10_now_96 rfl rfl ?_
    refine r_getR (kf := 4) (d2 := (7, 0, 0)) C dX10_now_97 rfl rfl f_X10 (by decide) t_2_100 rfl rfl ?_
    refine r_getI (kf := 8) C dX10_now_100 rfl rfl f_X6 (by decide) t_1_172 rfl ?_
    exact r_ireturn C dX10_now_103 (rt_e hF)
  have hF := if_f h10 hF
  by_cases h11 : a1 = (6 : Int32)
  · have hF := if_t h11 hF
    refine r_tabIn (off := 103) C 104 dX10_now_1 (by rw [h11]; decide) (by rw [h11]; decide) (by rw [h11]; rfl) (by decide) ?_
    refine r_aload_n C 0 0 dX10_now_104 rfl rfl ?_
    refine r_getR (kf := 4) (d2 := (7, 0, 0)) C dX10_now_105 rfl rfl f_X10 (by decide) t_2_100 rfl rfl ?_
    refine r_getI (kf := 9) C dX10_now_108 rfl rfl f_X6 (by decide) t_1_174 rfl ?_
    exact r_ireturn C dX10_now_111 (rt_e hF)
  have hF := if_f h11 hF
  by_cases h12 : a1 = (7 : Int32)
  · have hF := if_t h12 hF
    refine r_tabIn (off := 111) C 112 dX10_now_1 (by rw [h12]; decide) (by rw [h12]; decide) (by rw [h12]; rfl) (by decide) ?_
    refine r_aload_n C 0 0 dX10_now_112 rfl rfl ?_
    refine r_getR (kf := 4) (d2 := (7, 0, 0)) C dX10_now_113 rfl rfl f_X10 (by decide) t_2_100 rfl rfl ?_
    refine r_getI (kf := 10) C dX10_now_116 rfl rfl f_X6 (by decide) t_1_176 rfl ?_
    exact r_ireturn C dX10_now_119 (rt_e hF)
  have hF := if_f h12 hF
  refine r_tabOut C 120 dX10_now_1 (by have u0 := lv_neT h1 (a := 0) rfl; have u1 := lv_neT h2 (a := 1) rfl; have u2 := lv_neT h3 (a := 2) rfl; have u3 := lv_neT h5 (a := 3) rfl; have u4 := lv_neT h9 (a := 4) rfl; have u5 := lv_neT h10 (a := 5) rfl; have u6 := lv_neT h11 (a := 6) rfl; have u7 := lv_neT h12 (a := 7) rfl; omega) (by decide) ?_
  refine r_iconst (v := (-1 : Int32)) C dX10_now_120 rfl ?_
  exact r_ireturn C dX10_now_121 (rt_e hF)
def F_X10_points (a1 : Int32) (σ : St) : Option (Int32 × St) :=
  bd (F_X6_isDrop 0 a1 σ) fun r2 σ1 => (if r2 = 0 then some ((-1 : Int32), σ1) else ck (inb a1 12) ((if (σ1.1 (10, 0, (a1.toNatClampNeg)) 3) = 0 then bd (F_X6_touches 0 0 (a1.toNatClampNeg) σ1) fun r6 σ5 => (if r6 = 0 then bd (F_X5_hasChimney 0 (σ5.1 (10, 0, (a1.toNatClampNeg)) 1) σ5) fun r9 σ8 => (if r9 = 0 then ck (decide (¬ (10 : Int32) = 0)) (some ((3 : Int32) + ((2 : Int32) * ((σ8.1 (10, 0, (a1.toNatClampNeg)) 1) / (10 : Int32))), σ8)) else some ((0 : Int32), σ8)) else some ((0 : Int32), σ5)) else some ((-4 : Int32), σ1))))
set_option maxRecDepth 20000 in
set_option maxHeartbeats 4000000 in
theorem s_X10_points (G : Gx) (l : Launch) {a1 : Int32} {σ σ' : St} {r : Int32} (hF : F_X10_points a1 σ = some (r, σ')) : Sp G l yX10_points cX10_points 3 (some .int) (lvl 2) [vR (0, 0, 0), vI a1] σ (va_Qi (fun a b => a = r ∧ b = σ') (Wd G) (AG G)) := by
  refine Sp_of (own := RX10) (by decide) rfl (Nat.le_of_ble_eq_true rfl) ?_
  intro p e s m args below meth c C
  show Rt G p l e (lvl 2) s m args below meth c 0 0 (MQ below (va_Qi (fun a b => a = r ∧ b = σ') (Wd G) (AG G)) args s 0 0 (AG G)) 3 0 [(0, vR (0, 0, 0)), (1, vI a1)] [] σ
  unfold F_X10_points at hF
  refine r_aload_n C 0 0 dX10_points_0 rfl rfl ?_
  refine r_getR (kf := 4) (d2 := (7, 0, 0)) C dX10_points_1 rfl rfl f_X10 (by decide) t_2_100 rfl rfl ?_
  refine r_iload_n C 1 1 dX10_points_4 rfl rfl ?_
  obtain ⟨r2, σ1, e3, hF⟩ := bd_e hF
  refine r_callV_i (as := [vI a1]) (st := []) C dX10_points_5 (s_X6_isDrop G l e3) rfl rfl rfl t_4_11 t_4_12 t_4_13 t_1_5 t_4_14 m_X6_isDrop ⟨Nat.le_of_ble_eq_true rfl, Nat.le_of_ble_eq_true rfl⟩ ⟨rfl, rfl⟩ ⟨Nat.zero_le _, Nat.zero_le _⟩ rfl (Nat.le_of_ble_eq_true rfl) ?_
  refine r_if_ne C 13 dX10_points_8 (by decide)  (fun h15 => ?_) (fun h15 => ?_)
  · have hF := if_f h15 hF
    refine r_aload_n C 0 0 dX10_points_13 rfl rfl ?_
    refine r_getR (kf := 4) (d2 := (7, 0, 0)) C dX10_points_14 rfl rfl f_X10 (by decide) t_2_100 rfl rfl ?_
    refine r_getR (kf := 1) (d2 := (9, 0, 0)) C dX10_points_17 rfl rfl f_X6 (by decide) t_1_158 rfl rfl ?_
    refine r_iload_n C 1 1 dX10_points_20 rfl rfl ?_
    obtain ⟨h4, hF⟩ := ck_e hF
    refine r_aaload (cA := 0) (d2 := (10, 0, (a1.toNatClampNeg))) C dX10_points_21 rfl rfl h4 rfl ?_
    refine r_astore_n (ls2 := [(2, vR (10, 0, (a1.toNatClampNeg))), (0, vR (0, 0, 0)), (1, vI a1)]) C dX10_points_22 2 rfl (by decide) rfl ?_
    refine r_aload_n C 0 2 dX10_points_23 rfl rfl ?_
    refine r_getI (kf := 3) C dX10_points_24 rfl rfl f_X0 (by decide) t_1_133 rfl ?_
    refine r_if_eq C 33 dX10_points_27 (by decide)  (fun h14 => ?_) (fun h14 => ?_)
    · have hF := if_t h14 hF
      refine r_aload_n C 1 0 dX10_points_33 rfl rfl ?_
      refine r_getR (kf := 4) (d2 := (7, 0, 0)) C dX10_points_34 rfl rfl f_X10 (by decide) t_2_100 rfl rfl ?_
      refine r_aload_n C 0 2 dX10_points_37 rfl rfl ?_
      obtain ⟨r6, σ5, e7, hF⟩ := bd_e hF
      refine r_callV_i (as := [vR (10, 0, (a1.toNatClampNeg))]) (st := []) C dX10_points_38 (s_X6_touches G l e7) rfl rfl rfl t_4_31 t_3_183 t_3_184 t_1_5 t_3_185 m_X6_touches ⟨Nat.le_of_ble_eq_true rfl, Nat.le_of_ble_eq_true rfl⟩ ⟨rfl, rfl⟩ ⟨Nat.zero_le _, Nat.zero_le _⟩ rfl (Nat.le_of_ble_eq_true rfl) ?_
      refine r_if_ne C 58 dX10_points_41 (by decide)  (fun h13 => ?_) (fun h13 => ?_)
      · have hF := if_f h13 hF
        refine r_iconst (v := (0 : Int32)) C dX10_points_58 rfl ?_
        exact r_ireturn C dX10_points_59 (rt_e hF)
      · have hF := if_t h13 hF
        refine r_aload_n C 1 0 dX10_points_44 rfl rfl ?_
        refine r_getR (kf := 3) (d2 := (3, 0, 0)) C dX10_points_45 rfl rfl f_X10 (by decide) t_2_99 rfl rfl ?_
        refine r_aload_n C 0 2 dX10_points_48 rfl rfl ?_
        refine r_getI (kf := 1) C dX10_points_49 rfl rfl f_X0 (by decide) t_1_125 rfl ?_
        obtain ⟨r9, σ8, e10, hF⟩ := bd_e hF
        refine r_callV_i (as := [vI (σ5.1 (10, 0, (a1.toNatClampNeg)) 1)]) (st := []) C dX10_points_52 (s_X5_hasChimney G l e10) rfl rfl rfl t_4_32 t_3_211 t_3_212 t_1_3 t_3_213 m_X5_hasChimney ⟨Nat.le_of_ble_eq_true rfl, Nat.le_of_ble_eq_true rfl⟩ ⟨rfl, rfl⟩ ⟨Nat.zero_le _, Nat.zero_le _⟩ rfl (Nat.le_of_ble_eq_true rfl) ?_
        refine r_if_eq C 60 dX10_points_55 (by decide)  (fun h12 => ?_) (fun h12 => ?_)
        · have hF := if_t h12 hF
          refine r_iconst (v := (3 : Int32)) C dX10_points_60 rfl ?_
          refine r_iconst (v := (2 : Int32)) C dX10_points_61 rfl ?_
          refine r_aload_n C 0 2 dX10_points_62 rfl rfl ?_
          refine r_getI (kf := 1) C dX10_points_63 rfl rfl f_X0 (by decide) t_1_125 rfl ?_
          refine r_bipush (v := (10 : Int32)) C dX10_points_66 rfl ?_
          obtain ⟨h11, hF⟩ := ck_e hF
          refine r_idiv C dX10_points_68 (nz h11) ?_
          refine r_imul C dX10_points_69 ?_
          refine r_iadd C dX10_points_70 ?_
          exact r_ireturn C dX10_points_71 (rt_e hF)
        · have hF := if_f h12 hF
          refine r_iconst (v := (0 : Int32)) C dX10_points_58 rfl ?_
          exact r_ireturn C dX10_points_59 (rt_e hF)
    · have hF := if_f h14 hF
      refine r_bipush (v := (-4 : Int32)) C dX10_points_30 rfl ?_
      exact r_ireturn C dX10_points_32 (rt_e hF)
  · have hF := if_t h15 hF
    refine r_iconst (v := (-1 : Int32)) C dX10_points_11 rfl ?_
    exact r_ireturn C dX10_points_12 (rt_e hF)
def F_X0_takeAll (q0 : Nat) (i0 : Nat) (q1 : Nat) (i1 : Nat) (σ : St) : Option (Unit × St) :=
  nam (uI σ (10, q0, i0) 0 (σ.1 (10, q1, i1) 0)) fun σ1 => nam (uI σ1 (10, q0, i0) 1 (σ1.1 (10, q1, i1) 1)) fun σ2 => nam (uI σ2 (10, q0, i0) 2 (σ2.1 (10, q1, i1) 2)) fun σ3 => nam (uI σ3 (10, q0, i0) 3 (σ3.1 (10, q1, i1) 3)) fun σ4 => nam (uI σ4 (10, q0, i0) 4 (σ4.1 (10, q1, i1) 4)) fun σ5 => nam (uI σ5 (10, q0, i0) 5 (σ5.1 (10, q1, i1) 5)) fun σ6 => some ((), σ6)
set_option maxRecDepth 20000 in
set_option maxHeartbeats 4000000 in
theorem s_X0_takeAll (G : Gx) (l : Launch) {q0 : Nat} {i0 : Nat} {q1 : Nat} {i1 : Nat} {σ σ' : St}  (hF : F_X0_takeAll q0 i0 q1 i1 σ = some ((), σ')) : Sp G l yX0_takeAll cX0_takeAll 2 none (lvl 0) [vR (10, q0, i0), vR (10, q1, i1)] σ (va_Qv (fun b => b = σ') (Wd G) (AG G)) := by
  refine Sp_of (own := RX0) (by decide) rfl (Nat.le_of_ble_eq_true rfl) ?_
  intro p e s m args below meth c C
  show Rt G p l e (lvl 0) s m args below meth c 0 0 (MQ below (va_Qv (fun b => b = σ') (Wd G) (AG G)) args s 0 0 (AG G)) 2 0 [(0, vR (10, q0, i0)), (1, vR (10, q1, i1))] [] σ
  unfold F_X0_takeAll at hF
  refine r_aload_n C 0 0 dX0_takeAll_0 rfl rfl ?_
  refine r_aload_n C 1 1 dX0_takeAll_1 rfl rfl ?_
  refine r_getI (kf := 0) C dX0_takeAll_2 rfl rfl f_X0 (by decide) t_1_118 rfl ?_
  obtain ⟨σ1, eσ1, hF⟩ := nam_e hF
  refine r_put (kf := 0) (ty0 := tyX0) C dX0_takeAll_5 rfl rfl f_X0 tyX0_ok nmX0 (by decide) t_1_118 rfl rfl rfl rfl eσ1 ?_
  refine r_aload_n C 0 0 dX0_takeAll_8 rfl rfl ?_
  refine r_aload_n C 1 1 dX0_takeAll_9 rfl rfl ?_
  refine r_getI (kf := 1) C dX0_takeAll_10 rfl rfl f_X0 (by decide) t_1_123 rfl ?_
  obtain ⟨σ2, eσ2, hF⟩ := nam_e hF
  refine r_put (kf := 1) (ty0 := tyX0) C dX0_takeAll_13 rfl rfl f_X0 tyX0_ok nmX0 (by decide) t_1_123 rfl rfl rfl rfl eσ2 ?_
  refine r_aload_n C 0 0 dX0_takeAll_16 rfl rfl ?_
  refine r_aload_n C 1 1 dX0_takeAll_17 rfl rfl ?_
  refine r_getI (kf := 2) C dX0_takeAll_18 rfl rfl f_X0 (by decide) t_1_126 rfl ?_
  obtain ⟨σ3, eσ3, hF⟩ := nam_e hF
  refine r_put (kf := 2) (ty0 := tyX0) C dX0_takeAll_21 rfl rfl f_X0 tyX0_ok nmX0 (by decide) t_1_126 rfl rfl rfl rfl eσ3 ?_
  refine r_aload_n C 0 0 dX0_takeAll_24 rfl rfl ?_
  refine r_aload_n C 1 1 dX0_takeAll_25 rfl rfl ?_
  refine r_getI (kf := 3) C dX0_takeAll_26 rfl rfl f_X0 (by decide) t_1_130 rfl ?_
  obtain ⟨σ4, eσ4, hF⟩ := nam_e hF
  refine r_put (kf := 3) (ty0 := tyX0) C dX0_takeAll_29 rfl rfl f_X0 tyX0_ok nmX0 (by decide) t_1_130 rfl rfl rfl rfl eσ4 ?_
  refine r_aload_n C 0 0 dX0_takeAll_32 rfl rfl ?_
  refine r_aload_n C 1 1 dX0_takeAll_33 rfl rfl ?_
  refine r_getI (kf := 4) C dX0_takeAll_34 rfl rfl f_X0 (by decide) t_1_134 rfl ?_
  obtain ⟨σ5, eσ5, hF⟩ := nam_e hF
  refine r_put (kf := 4) (ty0 := tyX0) C dX0_takeAll_37 rfl rfl f_X0 tyX0_ok nmX0 (by decide) t_1_134 rfl rfl rfl rfl eσ5 ?_
  refine r_aload_n C 0 0 dX0_takeAll_40 rfl rfl ?_
  refine r_aload_n C 1 1 dX0_takeAll_41 rfl rfl ?_
  refine r_getI (kf := 5) C dX0_takeAll_42 rfl rfl f_X0 (by decide) t_1_137 rfl ?_
  obtain ⟨σ6, eσ6, hF⟩ := nam_e hF
  refine r_put (kf := 5) (ty0 := tyX0) C dX0_takeAll_45 rfl rfl f_X0 tyX0_ok nmX0 (by decide) t_1_137 rfl rfl rfl rfl eσ6 ?_
  exact r_return C dX0_takeAll_48 (rv_e hF)
def L_X6_takeAll_17 (q0 : Nat) (q1 : Nat) : Nat → Int32 → St → (St → Option (Unit × St)) → Option (Unit × St)
  | 0, _, _, _ => none
  | n + 1, v2, τ, kx44 =>
  (if (12 : Int32) ≤ v2 then kx44  τ else ck (inb v2 12) (ck (inb v2 12) (bd (F_X0_takeAll q0 (v2.toNatClampNeg) q1 (v2.toNatClampNeg) τ) fun _ σ5 => nam (v2 + (1 : Int32)) fun x7 => L_X6_takeAll_17 q0 q1 n x7 σ5 kx44)))
def F_X6_takeAll (q0 : Nat) (q1 : Nat) (σ : St) : Option (Unit × St) :=
  ck (cpk (0 : Int32) (0 : Int32) (96 : Int32) 96 96) (nam (uR σ (8, q0, 0) (va_cpy (σ.1 (8, q1, 0)) (σ.1 (8, q0, 0)) (0 : Int32).toNatClampNeg (0 : Int32).toNatClampNeg (96 : Int32).toNatClampNeg)) fun σ2 => L_X6_takeAll_17 q0 q1 FU (0 : Int32) σ2 (fun  (σ9 : St) => nam (uI σ9 (7, q0, 0) 2 (σ9.1 (7, q1, 0) 2)) fun σ10 => nam (uI σ10 (7, q0, 0) 3 (σ10.1 (7, q1, 0) 3)) fun σ11 => nam (uI σ11 (7, q0, 0) 4 (σ11.1 (7, q1, 0) 4)) fun σ12 => nam (uI σ12 (7, q0, 0) 5 (σ12.1 (7, q1, 0) 5)) fun σ13 => ck (decide ((σ13.1 (7, q1, 0) 6) = 0 ∨ (σ13.1 (7, q1, 0) 6) = 1)) (nam (uI σ13 (7, q0, 0) 6 (σ13.1 (7, q1, 0) 6)) fun σ15 => nam (uI σ15 (7, q0, 0) 7 (σ15.1 (7, q1, 0) 7)) fun σ16 => nam (uI σ16 (7, q0, 0) 8 (σ16.1 (7, q1, 0) 8)) fun σ17 => nam (uI σ17 (7, q0, 0) 9 (σ17.1 (7, q1, 0) 9)) fun σ18 => nam (uI σ18 (7, q0, 0) 10 (σ18.1 (7, q1, 0) 10)) fun σ19 => some ((), σ19))))
set_option maxRecDepth 20000 in
set_option maxHeartbeats 4000000 in
theorem l_X6_takeAll_17 {G : Gx} {p : Program} {l : Launch} {e : Env} {s : State} {m : MethodId} {args : Array Value} {below : List Frame} {meth : Method} {c : Code} (C : Cx G p s m args meth c none 3 RX6 cX6_takeAll) (q0 : Nat) (q1 : Nat) {σ' : St}  (kx44 : St → Option (Unit × St)) (hkx44 : ∀  (τ : St), kx44  τ = some ((), σ') → Rt G p l e (lvl 1) s m args below meth c 0 0 (MQ below (va_Qv (fun b => b = σ') (Wd G) (AG G)) args s 0 0 (AG G)) 3 44 [(0, vR (7, q0, 0)), (1, vR (7, q1, 0))] [] τ) : ∀ (n : Nat) (v2 : Int32) (τ : St), L_X6_takeAll_17 q0 q1 n v2 τ kx44 = some ((), σ') → Rt G p l e (lvl 1) s m args below meth c 0 0 (MQ below (va_Qv (fun b => b = σ') (Wd G) (AG G)) args s 0 0 (AG G)) 3 17 [(0, vR (7, q0, 0)), (1, vR (7, q1, 0)), (2, vI v2)] [] τ := by
  intro n
  induction n with
  | zero => intro v2 τ hF; cases hF
  | succ n ih =>
    intro v2 τ hF
    unfold L_X6_takeAll_17 at hF
    refine r_iload_n C 2 2 dX6_takeAll_17 rfl rfl ?_
    refine r_bipush (v := (12 : Int32)) C dX6_takeAll_18 rfl ?_
    refine r_icmp_ge C 44 dX6_takeAll_20 (by decide)  (fun h8 => ?_) (fun h8 => ?_)
    · have hF := if_t h8 hF
      refine r_drop (ls2 := [(0, vR (7, q0, 0)), (1, vR (7, q1, 0))]) [0, 1] rfl ?_
      exact hkx44 _ hF
    · have hF := if_f h8 hF
      refine r_aload_n C 0 0 dX6_takeAll_23 rfl rfl ?_
      refine r_getR (kf := 1) (d2 := (9, q0, 0)) C dX6_takeAll_24 rfl rfl f_X6 (by decide) t_1_156 rfl rfl ?_
      refine r_iload_n C 2 2 dX6_takeAll_27 rfl rfl ?_
      obtain ⟨h3, hF⟩ := ck_e hF
      refine r_aaload (cA := 0) (d2 := (10, q0, (v2.toNatClampNeg))) C dX6_takeAll_28 rfl rfl h3 rfl ?_
      refine r_aload_n C 1 1 dX6_takeAll_29 rfl rfl ?_
      refine r_getR (kf := 1) (d2 := (9, q1, 0)) C dX6_takeAll_30 rfl rfl f_X6 (by decide) t_1_156 rfl rfl ?_
      refine r_iload_n C 2 2 dX6_takeAll_33 rfl rfl ?_
      obtain ⟨h4, hF⟩ := ck_e hF
      refine r_aaload (cA := 0) (d2 := (10, q1, (v2.toNatClampNeg))) C dX6_takeAll_34 rfl rfl h4 rfl ?_
      obtain ⟨⟨⟩, σ5, e6, hF⟩ := bd_e hF
      refine r_callV_v (as := [vR (10, q1, (v2.toNatClampNeg))]) (st := []) C dX6_takeAll_35 (s_X0_takeAll G l e6) rfl rfl rfl t_4_41 t_4_42 t_4_43 t_1_7 t_4_44 m_X0_takeAll ⟨Nat.le_of_ble_eq_true rfl, Nat.le_of_ble_eq_true rfl⟩ ⟨rfl, rfl⟩ ⟨Nat.zero_le _, Nat.zero_le _⟩ rfl (Nat.le_of_ble_eq_true rfl) ?_
      obtain ⟨x7, ex7, hF⟩ := nam_e hF
      refine r_iinc (v := x7) (ls2 := [(2, vI x7), (0, vR (7, q0, 0)), (1, vR (7, q1, 0))]) C 2 dX6_takeAll_38 rfl ex7.symm (by decide) rfl ?_
      refine r_goto C 17 dX6_takeAll_41 (by decide) ?_
      refine r_drop (ls2 := [(0, vR (7, q0, 0)), (1, vR (7, q1, 0)), (2, vI x7)]) [1, 2, 0] rfl ?_
      exact ih _ _ hF
set_option maxRecDepth 20000 in
set_option maxHeartbeats 4000000 in
theorem s_X6_takeAll (G : Gx) (l : Launch) {q0 : Nat} {q1 : Nat} {σ σ' : St}  (hF : F_X6_takeAll q0 q1 σ = some ((), σ')) : Sp G l yX6_takeAll cX6_takeAll 3 none (lvl 1) [vR (7, q0, 0), vR (7, q1, 0)] σ (va_Qv (fun b => b = σ') (Wd G) (AG G)) := by
  refine Sp_of (own := RX6) (by decide) rfl (Nat.le_of_ble_eq_true rfl) ?_
  intro p e s m args below meth c C
  show Rt G p l e (lvl 1) s m args below meth c 0 0 (MQ below (va_Qv (fun b => b = σ') (Wd G) (AG G)) args s 0 0 (AG G)) 3 0 [(0, vR (7, q0, 0)), (1, vR (7, q1, 0))] [] σ
  unfold F_X6_takeAll at hF
  refine r_aload_n C 1 1 dX6_takeAll_0 rfl rfl ?_
  refine r_getR (kf := 0) (d2 := (8, q1, 0)) C dX6_takeAll_1 rfl rfl f_X6 (by decide) t_1_153 rfl rfl ?_
  refine r_iconst (v := (0 : Int32)) C dX6_takeAll_4 rfl ?_
  refine r_aload_n C 0 0 dX6_takeAll_5 rfl rfl ?_
  refine r_getR (kf := 0) (d2 := (8, q0, 0)) C dX6_takeAll_6 rfl rfl f_X6 (by decide) t_1_153 rfl rfl ?_
  refine r_iconst (v := (0 : Int32)) C dX6_takeAll_9 rfl ?_
  refine r_bipush (v := (96 : Int32)) C dX6_takeAll_10 rfl ?_
  obtain ⟨h1, hF⟩ := ck_e hF
  obtain ⟨σ2, eσ2, hF⟩ := nam_e hF
  refine r_copyI C dX6_takeAll_12 rfl rfl t_3_100 t_1_49 t_1_48 t_1_4 ⟨Nat.le_of_ble_eq_true rfl, Nat.le_of_ble_eq_true rfl⟩ h1 eσ2 ?_
  refine r_iconst (v := (0 : Int32)) C dX6_takeAll_15 rfl ?_
  refine r_istore_n (ls2 := [(2, vI (0 : Int32)), (0, vR (7, q0, 0)), (1, vR (7, q1, 0))]) C dX6_takeAll_16 2 rfl (by decide) rfl ?_
  refine r_drop (ls2 := [(0, vR (7, q0, 0)), (1, vR (7, q1, 0)), (2, vI (0 : Int32))]) [1, 2, 0] rfl ?_
  refine l_X6_takeAll_17 C q0 q1 _ ?_ _ _ _ hF
  · intro  σ9 hF
    refine r_aload_n C 0 0 dX6_takeAll_44 rfl rfl ?_
    refine r_aload_n C 1 1 dX6_takeAll_45 rfl rfl ?_
    refine r_getI (kf := 2) C dX6_takeAll_46 rfl rfl f_X6 (by decide) t_1_159 rfl ?_
    obtain ⟨σ10, eσ10, hF⟩ := nam_e hF
    refine r_put (kf := 2) (ty0 := tyX6) C dX6_takeAll_49 rfl rfl f_X6 tyX6_ok nmX6 (by decide) t_1_159 rfl rfl rfl rfl eσ10 ?_
    refine r_aload_n C 0 0 dX6_takeAll_52 rfl rfl ?_
    refine r_aload_n C 1 1 dX6_takeAll_53 rfl rfl ?_
    refine r_getI (kf := 3) C dX6_takeAll_54 rfl rfl f_X6 (by decide) t_1_161 rfl ?_
    obtain ⟨σ11, eσ11, hF⟩ := nam_e hF
    refine r_put (kf := 3) (ty0 := tyX6) C dX6_takeAll_57 rfl rfl f_X6 tyX6_ok nmX6 (by decide) t_1_161 rfl rfl rfl rfl eσ11 ?_
    refine r_aload_n C 0 0 dX6_takeAll_60 rfl rfl ?_
    refine r_aload_n C 1 1 dX6_takeAll_61 rfl rfl ?_
    refine r_getI (kf := 4) C dX6_takeAll_62 rfl rfl f_X6 (by decide) t_1_163 rfl ?_
    obtain ⟨σ12, eσ12, hF⟩ := nam_e hF
    refine r_put (kf := 4) (ty0 := tyX6) C dX6_takeAll_65 rfl rfl f_X6 tyX6_ok nmX6 (by decide) t_1_163 rfl rfl rfl rfl eσ12 ?_
    refine r_aload_n C 0 0 dX6_takeAll_68 rfl rfl ?_
    refine r_aload_n C 1 1 dX6_takeAll_69 rfl rfl ?_
    refine r_getI (kf := 5) C dX6_takeAll_70 rfl rfl f_X6 (by decide) t_1_165 rfl ?_
    obtain ⟨σ13, eσ13, hF⟩ := nam_e hF
    refine r_put (kf := 5) (ty0 := tyX6) C dX6_takeAll_73 rfl rfl f_X6 tyX6_ok nmX6 (by decide) t_1_165 rfl rfl rfl rfl eσ13 ?_
    refine r_aload_n C 0 0 dX6_takeAll_76 rfl rfl ?_
    refine r_aload_n C 1 1 dX6_takeAll_77 rfl rfl ?_
    refine r_getI (kf := 6) C dX6_takeAll_78 rfl rfl f_X6 (by decide) t_1_167 rfl ?_
    obtain ⟨h14, hF⟩ := ck_e hF
    obtain ⟨σ15, eσ15, hF⟩ := nam_e hF
    refine r_put (kf := 6) (ty0 := tyX6) C dX6_takeAll_81 rfl rfl f_X6 tyX6_ok nmX6 (by decide) t_1_167 rfl rfl (nar_z (bz h14)) (fit_z (bz h14)) eσ15 ?_
    refine r_aload_n C 0 0 dX6_takeAll_84 rfl rfl ?_
    refine r_aload_n C 1 1 dX6_takeAll_85 rfl rfl ?_
    refine r_getI (kf := 7) C dX6_takeAll_86 rfl rfl f_X6 (by decide) t_1_169 rfl ?_
    obtain ⟨σ16, eσ16, hF⟩ := nam_e hF
    refine r_put (kf := 7) (ty0 := tyX6) C dX6_takeAll_89 rfl rfl f_X6 tyX6_ok nmX6 (by decide) t_1_169 rfl rfl rfl rfl eσ16 ?_
    refine r_aload_n C 0 0 dX6_takeAll_92 rfl rfl ?_
    refine r_aload_n C 1 1 dX6_takeAll_93 rfl rfl ?_
    refine r_getI (kf := 8) C dX6_takeAll_94 rfl rfl f_X6 (by decide) t_1_171 rfl ?_
    obtain ⟨σ17, eσ17, hF⟩ := nam_e hF
    refine r_put (kf := 8) (ty0 := tyX6) C dX6_takeAll_97 rfl rfl f_X6 tyX6_ok nmX6 (by decide) t_1_171 rfl rfl rfl rfl eσ17 ?_
    refine r_aload_n C 0 0 dX6_takeAll_100 rfl rfl ?_
    refine r_aload_n C 1 1 dX6_takeAll_101 rfl rfl ?_
    refine r_getI (kf := 9) C dX6_takeAll_102 rfl rfl f_X6 (by decide) t_1_173 rfl ?_
    obtain ⟨σ18, eσ18, hF⟩ := nam_e hF
    refine r_put (kf := 9) (ty0 := tyX6) C dX6_takeAll_105 rfl rfl f_X6 tyX6_ok nmX6 (by decide) t_1_173 rfl rfl rfl rfl eσ18 ?_
    refine r_aload_n C 0 0 dX6_takeAll_108 rfl rfl ?_
    refine r_aload_n C 1 1 dX6_takeAll_109 rfl rfl ?_
    refine r_getI (kf := 10) C dX6_takeAll_110 rfl rfl f_X6 (by decide) t_1_175 rfl ?_
    obtain ⟨σ19, eσ19, hF⟩ := nam_e hF
    refine r_put (kf := 10) (ty0 := tyX6) C dX6_takeAll_113 rfl rfl f_X6 tyX6_ok nmX6 (by decide) t_1_175 rfl rfl rfl rfl eσ19 ?_
    exact r_return C dX6_takeAll_116 (rv_e hF)
def F_X10_keep (a1 : Int32) (σ : St) : Option (Int32 × St) :=
  bd (F_X10_within a1 (0 : Int32) (1 : Int32) σ) fun r2 σ1 => (if r2 = 0 then some ((-1 : Int32), σ1) else ck (inb a1 2) (nam (fun (y5 : Int32) (σ7 : St) => bd (F_X6_takeAll ((a1.toNatClampNeg) + 1) 0 σ7) fun _ σ8 => nam (uI σ8 (12, (a1.toNatClampNeg), 0) 1 (1 : Int32)) fun σ10 => some (y5, σ10)) fun k6 => (if (σ1.1 (12, (a1.toNatClampNeg), 0) 1) = 0 then k6 (0 : Int32) σ1 else k6 (1 : Int32) σ1)))
set_option maxRecDepth 20000 in
set_option maxHeartbeats 4000000 in
theorem s_X10_keep (G : Gx) (l : Launch) {a1 : Int32} {σ σ' : St} {r : Int32} (hF : F_X10_keep a1 σ = some (r, σ')) : Sp G l yX10_keep cX10_keep 4 (some .int) (lvl 2) [vR (0, 0, 0), vI a1] σ (va_Qi (fun a b => a = r ∧ b = σ') (Wd G) (AG G)) := by
  refine Sp_of (own := RX10) (by decide) rfl (Nat.le_of_ble_eq_true rfl) ?_
  intro p e s m args below meth c C
  show Rt G p l e (lvl 2) s m args below meth c 0 0 (MQ below (va_Qi (fun a b => a = r ∧ b = σ') (Wd G) (AG G)) args s 0 0 (AG G)) 4 0 [(0, vR (0, 0, 0)), (1, vI a1)] [] σ
  unfold F_X10_keep at hF
  refine r_iload_n C 1 1 dX10_keep_0 rfl rfl ?_
  refine r_iconst (v := (0 : Int32)) C dX10_keep_1 rfl ?_
  refine r_iconst (v := (1 : Int32)) C dX10_keep_2 rfl ?_
  obtain ⟨r2, σ1, e3, hF⟩ := bd_e hF
  refine r_callS_i (as := [vI a1, vI (0 : Int32), vI (1 : Int32)]) (st := []) C dX10_keep_3 (s_X10_within G l e3) t_2_141 t_2_142 t_1_1 t_2_143 m_X10_within ⟨Nat.le_of_ble_eq_true rfl, Nat.le_of_ble_eq_true rfl⟩ ⟨rfl, rfl⟩ ⟨Nat.zero_le _, Nat.zero_le _⟩ rfl (Nat.le_of_ble_eq_true rfl) ?_
  refine r_if_ne C 11 dX10_keep_6 (by decide)  (fun h12 => ?_) (fun h12 => ?_)
  · have hF := if_f h12 hF
    refine r_aload_n C 0 0 dX10_keep_11 rfl rfl ?_
    refine r_getR (kf := 5) (d2 := (11, 0, 0)) C dX10_keep_12 rfl rfl f_X10 (by decide) t_2_101 rfl rfl ?_
    refine r_iload_n C 1 1 dX10_keep_15 rfl rfl ?_
    obtain ⟨h4, hF⟩ := ck_e hF
    refine r_aaload (cA := 0) (d2 := (12, (a1.toNatClampNeg), 0)) C dX10_keep_16 rfl rfl h4 rfl ?_
    refine r_astore_n (ls2 := [(2, vR (12, (a1.toNatClampNeg), 0)), (0, vR (0, 0, 0)), (1, vI a1)]) C dX10_keep_17 2 rfl (by decide) rfl ?_
    refine r_aload_n C 0 2 dX10_keep_18 rfl rfl ?_
    refine r_getI (kf := 1) C dX10_keep_19 rfl rfl f_X1 (by decide) t_2_73 rfl ?_
    obtain ⟨k6, ek6, hF⟩ := nam_e hF
    have hk6 : ∀ (y5 : Int32) (σ7 : St), k6 y5 σ7 = some (r, σ') → Rt G p l e (lvl 2) s m args below meth c 0 0 (MQ below (va_Qi (fun a b => a = r ∧ b = σ') (Wd G) (AG G)) args s 0 0 (AG G)) 4 30 [(0, vR (0, 0, 0)), (2, vR (12, (a1.toNatClampNeg), 0))] [vI y5] σ7 := by
      intro y5 σ7 hF
      subst ek6
      refine r_istore_n (ls2 := [(3, vI y5), (0, vR (0, 0, 0)), (2, vR (12, (a1.toNatClampNeg), 0))]) C dX10_keep_30 3 rfl (by decide) rfl ?_
      refine r_aload_n C 2 2 dX10_keep_31 rfl rfl ?_
      refine r_getR (kf := 0) (d2 := (7, (a1.toNatClampNeg) + 1, 0)) C dX10_keep_32 rfl rfl f_X1 (by decide) t_2_71 rfl rfl ?_
      refine r_aload_n C 1 0 dX10_keep_35 rfl rfl ?_
      refine r_getR (kf := 4) (d2 := (7, 0, 0)) C dX10_keep_36 rfl rfl f_X10 (by decide) t_2_100 rfl rfl ?_
      obtain ⟨⟨⟩, σ8, e9, hF⟩ := bd_e hF
      refine r_callV_v (as := [vR (7, 0, 0)]) (st := []) C dX10_keep_39 (s_X6_takeAll G l e9) rfl rfl rfl t_4_37 t_4_38 t_4_39 t_1_5 t_4_40 m_X6_takeAll ⟨Nat.le_of_ble_eq_true rfl, Nat.le_of_ble_eq_true rfl⟩ ⟨rfl, rfl⟩ ⟨Nat.zero_le _, Nat.zero_le _⟩ rfl (Nat.le_of_ble_eq_true rfl) ?_
      refine r_aload_n C 2 2 dX10_keep_42 rfl rfl ?_
      refine r_iconst (v := (1 : Int32)) C dX10_keep_43 rfl ?_
      obtain ⟨σ10, eσ10, hF⟩ := nam_e hF
      refine r_put (kf := 1) (ty0 := tyX1) C dX10_keep_44 rfl rfl f_X1 tyX1_ok nmX1 (by decide) t_2_73 rfl rfl (nar_z (Or.inr rfl)) (fit_z (Or.inr rfl)) eσ10 ?_
      refine r_iload_n C 0 3 dX10_keep_47 rfl rfl ?_
      exact r_ireturn C dX10_keep_48 (rt_e hF)
    refine r_if_eq C 29 dX10_keep_22 (by decide)  (fun h11 => ?_) (fun h11 => ?_)
    · have hF := if_t h11 hF
      refine r_iconst (v := (0 : Int32)) C dX10_keep_29 rfl ?_
      refine r_drop (ls2 := [(0, vR (0, 0, 0)), (2, vR (12, (a1.toNatClampNeg), 0))]) [1, 0] rfl ?_
      exact hk6 _ _ hF
    · have hF := if_f h11 hF
      refine r_iconst (v := (1 : Int32)) C dX10_keep_25 rfl ?_
      refine r_goto C 30 dX10_keep_26 (by decide) ?_
      refine r_drop (ls2 := [(0, vR (0, 0, 0)), (2, vR (12, (a1.toNatClampNeg), 0))]) [1, 0] rfl ?_
      exact hk6 _ _ hF
  · have hF := if_t h12 hF
    refine r_iconst (v := (-1 : Int32)) C dX10_keep_9 rfl ?_
    exact r_ireturn C dX10_keep_10 (rt_e hF)
def F_X10_back (a1 : Int32) (σ : St) : Option (Int32 × St) :=
  bd (F_X10_within a1 (0 : Int32) (1 : Int32) σ) fun r2 σ1 => (if r2 = 0 then some ((-1 : Int32), σ1) else ck (inb a1 2) ((if (σ1.1 (12, (a1.toNatClampNeg), 0) 1) = 0 then some ((-2 : Int32), σ1) else bd (F_X6_takeAll 0 ((a1.toNatClampNeg) + 1) σ1) fun _ σ5 => some (σ5.1 (7, 0, 0) 4, σ5))))
set_option maxRecDepth 20000 in
set_option maxHeartbeats 4000000 in
theorem s_X10_back (G : Gx) (l : Launch) {a1 : Int32} {σ σ' : St} {r : Int32} (hF : F_X10_back a1 σ = some (r, σ')) : Sp G l yX10_back cX10_back 3 (some .int) (lvl 2) [vR (0, 0, 0), vI a1] σ (va_Qi (fun a b => a = r ∧ b = σ') (Wd G) (AG G)) := by
  refine Sp_of (own := RX10) (by decide) rfl (Nat.le_of_ble_eq_true rfl) ?_
  intro p e s m args below meth c C
  show Rt G p l e (lvl 2) s m args below meth c 0 0 (MQ below (va_Qi (fun a b => a = r ∧ b = σ') (Wd G) (AG G)) args s 0 0 (AG G)) 3 0 [(0, vR (0, 0, 0)), (1, vI a1)] [] σ
  unfold F_X10_back at hF
  refine r_iload_n C 1 1 dX10_back_0 rfl rfl ?_
  refine r_iconst (v := (0 : Int32)) C dX10_back_1 rfl ?_
  refine r_iconst (v := (1 : Int32)) C dX10_back_2 rfl ?_
  obtain ⟨r2, σ1, e3, hF⟩ := bd_e hF
  refine r_callS_i (as := [vI a1, vI (0 : Int32), vI (1 : Int32)]) (st := []) C dX10_back_3 (s_X10_within G l e3) t_2_141 t_2_142 t_1_1 t_2_143 m_X10_within ⟨Nat.le_of_ble_eq_true rfl, Nat.le_of_ble_eq_true rfl⟩ ⟨rfl, rfl⟩ ⟨Nat.zero_le _, Nat.zero_le _⟩ rfl (Nat.le_of_ble_eq_true rfl) ?_
  refine r_if_ne C 11 dX10_back_6 (by decide)  (fun h8 => ?_) (fun h8 => ?_)
  · have hF := if_f h8 hF
    refine r_aload_n C 0 0 dX10_back_11 rfl rfl ?_
    refine r_getR (kf := 5) (d2 := (11, 0, 0)) C dX10_back_12 rfl rfl f_X10 (by decide) t_2_101 rfl rfl ?_
    refine r_iload_n C 1 1 dX10_back_15 rfl rfl ?_
    obtain ⟨h4, hF⟩ := ck_e hF
    refine r_aaload (cA := 0) (d2 := (12, (a1.toNatClampNeg), 0)) C dX10_back_16 rfl rfl h4 rfl ?_
    refine r_astore_n (ls2 := [(2, vR (12, (a1.toNatClampNeg), 0)), (0, vR (0, 0, 0)), (1, vI a1)]) C dX10_back_17 2 rfl (by decide) rfl ?_
    refine r_aload_n C 0 2 dX10_back_18 rfl rfl ?_
    refine r_getI (kf := 1) C dX10_back_19 rfl rfl f_X1 (by decide) t_2_73 rfl ?_
    refine r_if_ne C 28 dX10_back_22 (by decide)  (fun h7 => ?_) (fun h7 => ?_)
    · have hF := if_f h7 hF
      refine r_aload_n C 1 0 dX10_back_28 rfl rfl ?_
      refine r_getR (kf := 4) (d2 := (7, 0, 0)) C dX10_back_29 rfl rfl f_X10 (by decide) t_2_100 rfl rfl ?_
      refine r_aload_n C 0 2 dX10_back_32 rfl rfl ?_
      refine r_getR (kf := 0) (d2 := (7, (a1.toNatClampNeg) + 1, 0)) C dX10_back_33 rfl rfl f_X1 (by decide) t_2_71 rfl rfl ?_
      obtain ⟨⟨⟩, σ5, e6, hF⟩ := bd_e hF
      refine r_callV_v (as := [vR (7, (a1.toNatClampNeg) + 1, 0)]) (st := []) C dX10_back_36 (s_X6_takeAll G l e6) rfl rfl rfl t_4_37 t_4_38 t_4_39 t_1_5 t_4_40 m_X6_takeAll ⟨Nat.le_of_ble_eq_true rfl, Nat.le_of_ble_eq_true rfl⟩ ⟨rfl, rfl⟩ ⟨Nat.zero_le _, Nat.zero_le _⟩ rfl (Nat.le_of_ble_eq_true rfl) ?_
      refine r_aload_n C 1 0 dX10_back_39 rfl rfl ?_
      refine r_getR (kf := 4) (d2 := (7, 0, 0)) C dX10_back_40 rfl rfl f_X10 (by decide) t_2_100 rfl rfl ?_
      refine r_getI (kf := 4) C dX10_back_43 rfl rfl f_X6 (by decide) t_1_164 rfl ?_
      exact r_ireturn C dX10_back_46 (rt_e hF)
    · have hF := if_t h7 hF
      refine r_bipush (v := (-2 : Int32)) C dX10_back_25 rfl ?_
      exact r_ireturn C dX10_back_27 (rt_e hF)
  · have hF := if_t h8 hF
    refine r_iconst (v := (-1 : Int32)) C dX10_back_9 rfl ?_
    exact r_ireturn C dX10_back_10 (rt_e hF)
def F_X6_beginAlone (q0 : Nat) (q1 : Nat) (a2 : Int32) (a3 : Int32) (a4 : Int32) (σ : St) : Option (Unit × St) :=
  ck (cpk (0 : Int32) (0 : Int32) (96 : Int32) 96 96) (nam (uR σ (8, q0, 0) (va_cpy (σ.1 (8, q1, 0)) (σ.1 (8, q0, 0)) (0 : Int32).toNatClampNeg (0 : Int32).toNatClampNeg (96 : Int32).toNatClampNeg)) fun σ2 => nam (uI σ2 (7, q0, 0) 3 (σ2.1 (7, q1, 0) 3)) fun σ3 => ck (decide ((σ3.1 (7, q1, 0) 6) = 0 ∨ (σ3.1 (7, q1, 0) 6) = 1)) (nam (uI σ3 (7, q0, 0) 6 (σ3.1 (7, q1, 0) 6)) fun σ5 => bd (F_X6_clearDrops q0 σ5) fun _ σ6 => bd (F_X6_addDrop q0 a2 a3 a4 σ6) fun r9 σ8 => some ((), σ8)))
set_option maxRecDepth 20000 in
set_option maxHeartbeats 4000000 in
theorem s_X6_beginAlone (G : Gx) (l : Launch) {q0 : Nat} {q1 : Nat} {a2 : Int32} {a3 : Int32} {a4 : Int32} {σ σ' : St}  (hF : F_X6_beginAlone q0 q1 a2 a3 a4 σ = some ((), σ')) : Sp G l yX6_beginAlone cX6_beginAlone 5 none (lvl 2) [vR (7, q0, 0), vR (7, q1, 0), vI a2, vI a3, vI a4] σ (va_Qv (fun b => b = σ') (Wd G) (AG G)) := by
  refine Sp_of (own := RX6) (by decide) rfl (Nat.le_of_ble_eq_true rfl) ?_
  intro p e s m args below meth c C
  show Rt G p l e (lvl 2) s m args below meth c 0 0 (MQ below (va_Qv (fun b => b = σ') (Wd G) (AG G)) args s 0 0 (AG G)) 5 0 [(0, vR (7, q0, 0)), (1, vR (7, q1, 0)), (2, vI a2), (3, vI a3), (4, vI a4)] [] σ
  unfold F_X6_beginAlone at hF
  refine r_aload_n C 1 1 dX6_beginAlone_0 rfl rfl ?_
  refine r_getR (kf := 0) (d2 := (8, q1, 0)) C dX6_beginAlone_1 rfl rfl f_X6 (by decide) t_1_153 rfl rfl ?_
  refine r_iconst (v := (0 : Int32)) C dX6_beginAlone_4 rfl ?_
  refine r_aload_n C 0 0 dX6_beginAlone_5 rfl rfl ?_
  refine r_getR (kf := 0) (d2 := (8, q0, 0)) C dX6_beginAlone_6 rfl rfl f_X6 (by decide) t_1_153 rfl rfl ?_
  refine r_iconst (v := (0 : Int32)) C dX6_beginAlone_9 rfl ?_
  refine r_bipush (v := (96 : Int32)) C dX6_beginAlone_10 rfl ?_
  obtain ⟨h1, hF⟩ := ck_e hF
  obtain ⟨σ2, eσ2, hF⟩ := nam_e hF
  refine r_copyI C dX6_beginAlone_12 rfl rfl t_3_100 t_1_49 t_1_48 t_1_4 ⟨Nat.le_of_ble_eq_true rfl, Nat.le_of_ble_eq_true rfl⟩ h1 eσ2 ?_
  refine r_aload_n C 0 0 dX6_beginAlone_15 rfl rfl ?_
  refine r_aload_n C 1 1 dX6_beginAlone_16 rfl rfl ?_
  refine r_getI (kf := 3) C dX6_beginAlone_17 rfl rfl f_X6 (by decide) t_1_161 rfl ?_
  obtain ⟨σ3, eσ3, hF⟩ := nam_e hF
  refine r_put (kf := 3) (ty0 := tyX6) C dX6_beginAlone_20 rfl rfl f_X6 tyX6_ok nmX6 (by decide) t_1_161 rfl rfl rfl rfl eσ3 ?_
  refine r_aload_n C 0 0 dX6_beginAlone_23 rfl rfl ?_
  refine r_aload_n C 1 1 dX6_beginAlone_24 rfl rfl ?_
  refine r_getI (kf := 6) C dX6_beginAlone_25 rfl rfl f_X6 (by decide) t_1_167 rfl ?_
  obtain ⟨h4, hF⟩ := ck_e hF
  obtain ⟨σ5, eσ5, hF⟩ := nam_e hF
  refine r_put (kf := 6) (ty0 := tyX6) C dX6_beginAlone_28 rfl rfl f_X6 tyX6_ok nmX6 (by decide) t_1_167 rfl rfl (nar_z (bz h4)) (fit_z (bz h4)) eσ5 ?_
  refine r_aload_n C 0 0 dX6_beginAlone_31 rfl rfl ?_
  obtain ⟨⟨⟩, σ6, e7, hF⟩ := bd_e hF
  refine r_callV_v (as := []) (st := []) C dX6_beginAlone_32 (s_X6_clearDrops G l e7) rfl rfl rfl t_3_101 t_3_102 t_3_103 t_1_5 t_3_104 m_X6_clearDrops ⟨Nat.le_of_ble_eq_true rfl, Nat.le_of_ble_eq_true rfl⟩ ⟨rfl, rfl⟩ ⟨Nat.zero_le _, Nat.zero_le _⟩ rfl (Nat.le_of_ble_eq_true rfl) ?_
  refine r_aload_n C 0 0 dX6_beginAlone_35 rfl rfl ?_
  refine r_iload_n C 2 2 dX6_beginAlone_36 rfl rfl ?_
  refine r_iload_n C 3 3 dX6_beginAlone_37 rfl rfl ?_
  refine r_iload C 4 dX6_beginAlone_38 rfl ?_
  obtain ⟨r9, σ8, e10, hF⟩ := bd_e hF
  refine r_callV_i (as := [vI a2, vI a3, vI a4]) (st := []) C dX6_beginAlone_40 (s_X6_addDrop G l e10) rfl rfl rfl t_4_61 t_3_167 t_3_168 t_1_5 t_3_169 m_X6_addDrop ⟨Nat.le_of_ble_eq_true rfl, Nat.le_of_ble_eq_true rfl⟩ ⟨rfl, rfl⟩ ⟨Nat.zero_le _, Nat.zero_le _⟩ rfl (Nat.le_of_ble_eq_true rfl) ?_
  refine r_pop_i C dX6_beginAlone_43 ?_
  exact r_return C dX6_beginAlone_44 (rv_e hF)
def F_X2_begin (q1 : Nat) (a2 : Int32) (a3 : Int32) (a4 : Int32) (σ : St) : Option (Unit × St) :=
  bd (F_X6_beginAlone 3 q1 a2 a3 a4 σ) fun _ σ1 => nam (uI σ1 (13, 0, 0) 3 a2) fun σ3 => nam (uI σ3 (13, 0, 0) 4 a3) fun σ4 => nam (uI σ4 (13, 0, 0) 5 a4) fun σ5 => some ((), σ5)
set_option maxRecDepth 20000 in
set_option maxHeartbeats 4000000 in
theorem s_X2_begin (G : Gx) (l : Launch) {q1 : Nat} {a2 : Int32} {a3 : Int32} {a4 : Int32} {σ σ' : St}  (hF : F_X2_begin q1 a2 a3 a4 σ = some ((), σ')) : Sp G l yX2_begin cX2_begin 5 none (lvl 3) [vR (13, 0, 0), vR (7, q1, 0), vI a2, vI a3, vI a4] σ (va_Qv (fun b => b = σ') (Wd G) (AG G)) := by
  refine Sp_of (own := RX2) (by decide) rfl (Nat.le_of_ble_eq_true rfl) ?_
  intro p e s m args below meth c C
  show Rt G p l e (lvl 3) s m args below meth c 0 0 (MQ below (va_Qv (fun b => b = σ') (Wd G) (AG G)) args s 0 0 (AG G)) 5 0 [(0, vR (13, 0, 0)), (1, vR (7, q1, 0)), (2, vI a2), (3, vI a3), (4, vI a4)] [] σ
  unfold F_X2_begin at hF
  refine r_aload_n C 0 0 dX2_begin_0 rfl rfl ?_
  refine r_getR (kf := 0) (d2 := (7, 3, 0)) C dX2_begin_1 rfl rfl f_X2 (by decide) t_1_210 rfl rfl ?_
  refine r_aload_n C 1 1 dX2_begin_4 rfl rfl ?_
  refine r_iload_n C 2 2 dX2_begin_5 rfl rfl ?_
  refine r_iload_n C 3 3 dX2_begin_6 rfl rfl ?_
  refine r_iload C 4 dX2_begin_7 rfl ?_
  obtain ⟨⟨⟩, σ1, e2, hF⟩ := bd_e hF
  refine r_callV_v (as := [vR (7, q1, 0), vI a2, vI a3, vI a4]) (st := []) C dX2_begin_9 (s_X6_beginAlone G l e2) rfl rfl rfl t_4_57 t_4_58 t_4_59 t_1_5 t_4_60 m_X6_beginAlone ⟨Nat.le_of_ble_eq_true rfl, Nat.le_of_ble_eq_true rfl⟩ ⟨rfl, rfl⟩ ⟨Nat.zero_le _, Nat.zero_le _⟩ rfl (Nat.le_of_ble_eq_true rfl) ?_
  refine r_aload_n C 0 0 dX2_begin_12 rfl rfl ?_
  refine r_iload_n C 2 2 dX2_begin_13 rfl rfl ?_
  obtain ⟨σ3, eσ3, hF⟩ := nam_e hF
  refine r_put (kf := 3) (ty0 := tyX2) C dX2_begin_14 rfl rfl f_X2 tyX2_ok nmX2 (by decide) t_1_213 rfl rfl rfl rfl eσ3 ?_
  refine r_aload_n C 0 0 dX2_begin_17 rfl rfl ?_
  refine r_iload_n C 3 3 dX2_begin_18 rfl rfl ?_
  obtain ⟨σ4, eσ4, hF⟩ := nam_e hF
  refine r_put (kf := 4) (ty0 := tyX2) C dX2_begin_19 rfl rfl f_X2 tyX2_ok nmX2 (by decide) t_1_214 rfl rfl rfl rfl eσ4 ?_
  refine r_aload_n C 0 0 dX2_begin_22 rfl rfl ?_
  refine r_iload C 4 dX2_begin_23 rfl ?_
  obtain ⟨σ5, eσ5, hF⟩ := nam_e hF
  refine r_put (kf := 5) (ty0 := tyX2) C dX2_begin_25 rfl rfl f_X2 tyX2_ok nmX2 (by decide) t_1_215 rfl rfl rfl rfl eσ5 ?_
  exact r_return C dX2_begin_28 (rv_e hF)
def L_X2_runOn_2 (q1 : Nat) (c2 : Int32) : Nat → Int32 → St → Option (Unit × St)
  | 0, _, _ => none
  | n + 1, v3, τ =>
  (if c2 ≤ v3 then ck (inb (0 : Int32) 12) (some ((), τ)) else bd (F_X6_passTick 3 q1 (0 : Int32) τ) fun _ σ2 => nam (v3 + (1 : Int32)) fun x4 => L_X2_runOn_2 q1 c2 n x4 σ2)
def F_X2_runOn (q1 : Nat) (a2 : Int32) (σ : St) : Option (Unit × St) :=
  L_X2_runOn_2 q1 a2 FU (0 : Int32) σ 
set_option maxRecDepth 20000 in
set_option maxHeartbeats 4000000 in
theorem l_X2_runOn_2 {G : Gx} {p : Program} {l : Launch} {e : Env} {s : State} {m : MethodId} {args : Array Value} {below : List Frame} {meth : Method} {c : Code} (C : Cx G p s m args meth c (some (.object "DropsDance$Drop")) 4 RX2 cX2_runOn) (q1 : Nat) (c2 : Int32) {σ' : St}  : ∀ (n : Nat) (v3 : Int32) (τ : St), L_X2_runOn_2 q1 c2 n v3 τ = some ((), σ') → Rt G p l e (lvl 4) s m args below meth c 0 0 (MQ below (va_Qr (fun b => b = (σ', (10, 3, 0))) (WdR G) (AG G)) args s 0 0 (AG G)) 4 2 [(0, vR (13, 0, 0)), (1, vR (3, q1, 0)), (2, vI c2), (3, vI v3)] [] τ := by
  intro n
  induction n with
  | zero => intro v3 τ hF; cases hF
  | succ n ih =>
    intro v3 τ hF
    unfold L_X2_runOn_2 at hF
    refine r_iload_n C 3 3 dX2_runOn_2 rfl rfl ?_
    refine r_iload_n C 2 2 dX2_runOn_3 rfl rfl ?_
    refine r_icmp_ge C 22 dX2_runOn_4 (by decide)  (fun h5 => ?_) (fun h5 => ?_)
    · have hF := if_t h5 hF
      refine r_aload_n C 0 0 dX2_runOn_22 rfl rfl ?_
      refine r_getR (kf := 0) (d2 := (7, 3, 0)) C dX2_runOn_23 rfl rfl f_X2 (by decide) t_1_210 rfl rfl ?_
      refine r_getR (kf := 1) (d2 := (9, 3, 0)) C dX2_runOn_26 rfl rfl f_X6 (by decide) t_1_157 rfl rfl ?_
      refine r_iconst (v := (0 : Int32)) C dX2_runOn_29 rfl ?_
      obtain ⟨h1, hF⟩ := ck_e hF
      refine r_aaload (cA := 0) (d2 := (10, 3, 0)) C dX2_runOn_30 rfl rfl h1 rfl ?_
      exact r_areturn C dX2_runOn_31 ⟨_, rfl⟩ (ra_e hF)
    · have hF := if_f h5 hF
      refine r_aload_n C 0 0 dX2_runOn_7 rfl rfl ?_
      refine r_getR (kf := 0) (d2 := (7, 3, 0)) C dX2_runOn_8 rfl rfl f_X2 (by decide) t_1_210 rfl rfl ?_
      refine r_aload_n C 1 1 dX2_runOn_11 rfl rfl ?_
      refine r_iconst (v := (0 : Int32)) C dX2_runOn_12 rfl ?_
      obtain ⟨⟨⟩, σ2, e3, hF⟩ := bd_e hF
      refine r_callV_v (as := [vR (3, q1, 0), vI (0 : Int32)]) (st := []) C dX2_runOn_13 (s_X6_passTick G l e3) rfl rfl rfl t_4_66 t_3_179 t_3_180 t_1_5 t_3_181 m_X6_passTick ⟨Nat.le_of_ble_eq_true rfl, Nat.le_of_ble_eq_true rfl⟩ ⟨rfl, rfl⟩ ⟨Nat.zero_le _, Nat.zero_le _⟩ rfl (Nat.le_of_ble_eq_true rfl) ?_
      obtain ⟨x4, ex4, hF⟩ := nam_e hF
      refine r_iinc (v := x4) (ls2 := [(3, vI x4), (0, vR (13, 0, 0)), (1, vR (3, q1, 0)), (2, vI c2)]) C 3 dX2_runOn_16 rfl ex4.symm (by decide) rfl ?_
      refine r_goto C 2 dX2_runOn_19 (by decide) ?_
      refine r_drop (ls2 := [(0, vR (13, 0, 0)), (1, vR (3, q1, 0)), (2, vI c2), (3, vI x4)]) [1, 2, 3, 0] rfl ?_
      exact ih _ _ hF
set_option maxRecDepth 20000 in
set_option maxHeartbeats 4000000 in
theorem s_X2_runOn (G : Gx) (l : Launch) {q1 : Nat} {a2 : Int32} {σ σ' : St}  (hF : F_X2_runOn q1 a2 σ = some ((), σ')) : Sp G l yX2_runOn cX2_runOn 4 (some (.object "DropsDance$Drop")) (lvl 4) [vR (13, 0, 0), vR (3, q1, 0), vI a2] σ (va_Qr (fun b => b = (σ', (10, 3, 0))) (WdR G) (AG G)) := by
  refine Sp_of (own := RX2) (by decide) rfl (Nat.le_of_ble_eq_true rfl) ?_
  intro p e s m args below meth c C
  show Rt G p l e (lvl 4) s m args below meth c 0 0 (MQ below (va_Qr (fun b => b = (σ', (10, 3, 0))) (WdR G) (AG G)) args s 0 0 (AG G)) 4 0 [(0, vR (13, 0, 0)), (1, vR (3, q1, 0)), (2, vI a2)] [] σ
  unfold F_X2_runOn at hF
  refine r_iconst (v := (0 : Int32)) C dX2_runOn_0 rfl ?_
  refine r_istore_n (ls2 := [(3, vI (0 : Int32)), (0, vR (13, 0, 0)), (1, vR (3, q1, 0)), (2, vI a2)]) C dX2_runOn_1 3 rfl (by decide) rfl ?_
  refine r_drop (ls2 := [(0, vR (13, 0, 0)), (1, vR (3, q1, 0)), (2, vI a2), (3, vI (0 : Int32))]) [1, 2, 3, 0] rfl ?_
  refine l_X2_runOn_2 C q1 a2  _ _ _ hF
def F_X10_alone (a1 : Int32) (a2 : Int32) (a3 : Int32) (a4 : Int32) (a5 : Int32) (σ : St) : Option (Int32 × St) :=
  bd (F_X10_isDropToBe a1 a2 a3 σ) fun r2 σ1 => (if r2 = 0 then some ((-1 : Int32), σ1) else bd (F_X10_within a4 (0 : Int32) (400 : Int32) σ1) fun r5 σ4 => (if r5 = 0 then some ((-1 : Int32), σ4) else bd (F_X10_within a5 (0 : Int32) (3 : Int32) σ4) fun r8 σ7 => (if r8 = 0 then some ((-1 : Int32), σ7) else bd (F_X6_isOpen 0 a1 σ7) fun r11 σ10 => (if r11 = 0 then some ((-2 : Int32), σ10) else bd (F_X2_begin 0 a1 a2 a3 σ10) fun _ σ13 => bd (F_X2_runOn 0 a4 σ13) fun _ σ15 => (if a5 = (0 : Int32) then some (σ15.1 (10, 3, 0) 0, σ15) else (if a5 = (1 : Int32) then some (σ15.1 (10, 3, 0) 1, σ15) else (if a5 = (2 : Int32) then some (σ15.1 (10, 3, 0) 3, σ15) else some (σ15.1 (10, 3, 0) 4, σ15))))))))
set_option maxRecDepth 20000 in
set_option maxHeartbeats 4000000 in
theorem s_X10_alone (G : Gx) (l : Launch) {a1 : Int32} {a2 : Int32} {a3 : Int32} {a4 : Int32} {a5 : Int32} {σ σ' : St} {r : Int32} (hF : F_X10_alone a1 a2 a3 a4 a5 σ = some (r, σ')) : Sp G l yX10_alone cX10_alone 7 (some .int) (lvl 5) [vR (0, 0, 0), vI a1, vI a2, vI a3, vI a4, vI a5] σ (va_Qi (fun a b => a = r ∧ b = σ') (Wd G) (AG G)) := by
  refine Sp_of (own := RX10) (by decide) rfl (Nat.le_of_ble_eq_true rfl) ?_
  intro p e s m args below meth c C
  show Rt G p l e (lvl 5) s m args below meth c 0 0 (MQ below (va_Qi (fun a b => a = r ∧ b = σ') (Wd G) (AG G)) args s 0 0 (AG G)) 7 0 [(0, vR (0, 0, 0)), (1, vI a1), (2, vI a2), (3, vI a3), (4, vI a4), (5, vI a5)] [] σ
  unfold F_X10_alone at hF
  refine r_iload_n C 1 1 dX10_alone_0 rfl rfl ?_
  refine r_iload_n C 2 2 dX10_alone_1 rfl rfl ?_
  refine r_iload_n C 3 3 dX10_alone_2 rfl rfl ?_
  obtain ⟨r2, σ1, e3, hF⟩ := bd_e hF
  refine r_callS_i (as := [vI a1, vI a2, vI a3]) (st := []) C dX10_alone_3 (s_X10_isDropToBe G l e3) t_3_152 t_3_153 t_1_1 t_3_154 m_X10_isDropToBe ⟨Nat.le_of_ble_eq_true rfl, Nat.le_of_ble_eq_true rfl⟩ ⟨rfl, rfl⟩ ⟨Nat.zero_le _, Nat.zero_le _⟩ rfl (Nat.le_of_ble_eq_true rfl) ?_
  refine r_if_eq C 31 dX10_alone_6 (by decide)  (fun h23 => ?_) (fun h23 => ?_)
  · have hF := if_t h23 hF
    refine r_iconst (v := (-1 : Int32)) C dX10_alone_31 rfl ?_
    exact r_ireturn C dX10_alone_32 (rt_e hF)
  · have hF := if_f h23 hF
    refine r_iload C 4 dX10_alone_9 rfl ?_
    refine r_iconst (v := (0 : Int32)) C dX10_alone_11 rfl ?_
    refine r_sipush (v := (400 : Int32)) C dX10_alone_12 rfl ?_
    obtain ⟨r5, σ4, e6, hF⟩ := bd_e hF
    refine r_callS_i (as := [vI a4, vI (0 : Int32), vI (400 : Int32)]) (st := []) C dX10_alone_15 (s_X10_within G l e6) t_2_141 t_2_142 t_1_1 t_2_143 m_X10_within ⟨Nat.le_of_ble_eq_true rfl, Nat.le_of_ble_eq_true rfl⟩ ⟨rfl, rfl⟩ ⟨Nat.zero_le _, Nat.zero_le _⟩ rfl (Nat.le_of_ble_eq_true rfl) ?_
    refine r_if_eq C 31 dX10_alone_18 (by decide)  (fun h22 => ?_) (fun h22 => ?_)
    · have hF := if_t h22 hF
      refine r_iconst (v := (-1 : Int32)) C dX10_alone_31 rfl ?_
      exact r_ireturn C dX10_alone_32 (rt_e hF)
    · have hF := if_f h22 hF
      refine r_iload C 5 dX10_alone_21 rfl ?_
      refine r_iconst (v := (0 : Int32)) C dX10_alone_23 rfl ?_
      refine r_iconst (v := (3 : Int32)) C dX10_alone_24 rfl ?_
      obtain ⟨r8, σ7, e9, hF⟩ := bd_e hF
      refine r_callS_i (as := [vI a5, vI (0 : Int32), vI (3 : Int32)]) (st := []) C dX10_alone_25 (s_X10_within G l e9) t_2_141 t_2_142 t_1_1 t_2_143 m_X10_within ⟨Nat.le_of_ble_eq_true rfl, Nat.le_of_ble_eq_true rfl⟩ ⟨rfl, rfl⟩ ⟨Nat.zero_le _, Nat.zero_le _⟩ rfl (Nat.le_of_ble_eq_true rfl) ?_
      refine r_if_ne C 33 dX10_alone_28 (by decide)  (fun h21 => ?_) (fun h21 => ?_)
      · have hF := if_f h21 hF
        refine r_aload_n C 0 0 dX10_alone_33 rfl rfl ?_
        refine r_getR (kf := 4) (d2 := (7, 0, 0)) C dX10_alone_34 rfl rfl f_X10 (by decide) t_2_100 rfl rfl ?_
        refine r_iload_n C 1 1 dX10_alone_37 rfl rfl ?_
        obtain ⟨r11, σ10, e12, hF⟩ := bd_e hF
        refine r_callV_i (as := [vI a1]) (st := []) C dX10_alone_38 (s_X6_isOpen G l e12) rfl rfl rfl t_3_161 t_3_162 t_3_163 t_1_5 t_3_164 m_X6_isOpen ⟨Nat.le_of_ble_eq_true rfl, Nat.le_of_ble_eq_true rfl⟩ ⟨rfl, rfl⟩ ⟨Nat.zero_le _, Nat.zero_le _⟩ rfl (Nat.le_of_ble_eq_true rfl) ?_
        refine r_if_ne C 47 dX10_alone_41 (by decide)  (fun h20 => ?_) (fun h20 => ?_)
        · have hF := if_f h20 hF
          refine r_aload_n C 0 0 dX10_alone_47 rfl rfl ?_
          refine r_getR (kf := 6) (d2 := (13, 0, 0)) C dX10_alone_48 rfl rfl f_X10 (by decide) t_2_102 rfl rfl ?_
          refine r_aload_n C 0 0 dX10_alone_51 rfl rfl ?_
          refine r_getR (kf := 4) (d2 := (7, 0, 0)) C dX10_alone_52 rfl rfl f_X10 (by decide) t_2_100 rfl rfl ?_
          refine r_iload_n C 1 1 dX10_alone_55 rfl rfl ?_
          refine r_iload_n C 2 2 dX10_alone_56 rfl rfl ?_
          refine r_iload_n C 3 3 dX10_alone_57 rfl rfl ?_
          obtain ⟨⟨⟩, σ13, e14, hF⟩ := bd_e hF
          refine r_callV_v (as := [vR (7, 0, 0), vI a1, vI a2, vI a3]) (st := []) C dX10_alone_58 (s_X2_begin G l e14) rfl rfl rfl t_4_53 t_4_54 t_4_55 t_1_8 t_4_56 m_X2_begin ⟨Nat.le_of_ble_eq_true rfl, Nat.le_of_ble_eq_true rfl⟩ ⟨rfl, rfl⟩ ⟨Nat.zero_le _, Nat.zero_le _⟩ rfl (Nat.le_of_ble_eq_true rfl) ?_
          refine r_aload_n C 0 0 dX10_alone_61 rfl rfl ?_
          refine r_getR (kf := 6) (d2 := (13, 0, 0)) C dX10_alone_62 rfl rfl f_X10 (by decide) t_2_102 rfl rfl ?_
          refine r_aload_n C 0 0 dX10_alone_65 rfl rfl ?_
          refine r_getR (kf := 3) (d2 := (3, 0, 0)) C dX10_alone_66 rfl rfl f_X10 (by decide) t_2_99 rfl rfl ?_
          refine r_iload C 4 dX10_alone_69 rfl ?_
          obtain ⟨⟨⟩, σ15, e16, hF⟩ := bd_e hF
          refine r_callV_r (as := [vR (3, 0, 0), vI a4]) (st := []) C dX10_alone_71 (s_X2_runOn G l e16) rfl rfl rfl t_4_62 t_4_63 t_4_64 t_1_8 t_4_65 m_X2_runOn ⟨Nat.le_of_ble_eq_true rfl, Nat.le_of_ble_eq_true rfl⟩ ⟨rfl, rfl⟩ ⟨Nat.zero_le _, Nat.zero_le _⟩ rfl (Nat.le_of_ble_eq_true rfl) ?_
          refine r_astore (ls2 := [(6, vR (10, 3, 0)), (0, vR (0, 0, 0)), (1, vI a1), (2, vI a2), (3, vI a3), (4, vI a4), (5, vI a5)]) C dX10_alone_74 (by decide) rfl ?_
          refine r_iload C 6 dX10_alone_76 rfl ?_
          by_cases h17 : a5 = (0 : Int32)
          · have hF := if_t h17 hF
            refine r_tabIn (off := 26) C 104 dX10_alone_78 (by rw [h17]; decide) (by rw [h17]; decide) (by rw [h17]; rfl) (by decide) ?_
            refine r_aload C 0 dX10_alone_104 rfl ?_
            refine r_getI (kf := 0) C dX10_alone_106 rfl rfl f_X0 (by decide) t_1_122 rfl ?_
            exact r_ireturn C dX10_alone_109 (rt_e hF)
          have hF := if_f h17 hF
          by_cases h18 : a5 = (1 : Int32)
          · have hF := if_t h18 hF
            refine r_tabIn (off := 32) C 110 dX10_alone_78 (by rw [h18]; decide) (by rw [h18]; decide) (by rw [h18]; rfl) (by decide) ?_
            refine r_aload C 0 dX10_alone_110 rfl ?_
            refine r_getI (kf := 1) C dX10_alone_112 rfl rfl f_X0 (by decide) t_1_125 rfl ?_
            exact r_ireturn C dX10_alone_115 (rt_e hF)
          have hF := if_f h18 hF
          by_cases h19 : a5 = (2 : Int32)
          · have hF := if_t h19 hF
            refine r_tabIn (off := 38) C 116 dX10_alone_78 (by rw [h19]; decide) (by rw [h19]; decide) (by rw [h19]; rfl) (by decide) ?_
            refine r_aload C 0 dX10_alone_116 rfl ?_
            refine r_getI (kf := 3) C dX10_alone_118 rfl rfl f_X0 (by decide) t_1_133 rfl ?_
            exact r_ireturn C dX10_alone_121 (rt_e hF)
          have hF := if_f h19 hF
          refine r_tabOut C 122 dX10_alone_78 (by have u0 := lv_neT h17 (a := 0) rfl; have u1 := lv_neT h18 (a := 1) rfl; have u2 := lv_neT h19 (a := 2) rfl; omega) (by decide) ?_
          refine r_aload C 0 dX10_alone_122 rfl ?_
          refine r_getI (kf := 4) C dX10_alone_124 rfl rfl f_X0 (by decide) t_1_135 rfl ?_
          exact r_ireturn C dX10_alone_127 (rt_e hF)
        · have hF := if_t h20 hF
          refine r_bipush (v := (-2 : Int32)) C dX10_alone_44 rfl ?_
          exact r_ireturn C dX10_alone_46 (rt_e hF)
      · have hF := if_t h21 hF
        refine r_iconst (v := (-1 : Int32)) C dX10_alone_31 rfl ?_
        exact r_ireturn C dX10_alone_32 (rt_e hF)
def L_X2_ticksTill_14 (q1 : Nat) (c2 : Int32) (c3 : Int32) : Nat → Int32 → St → Option (Int32 × St)
  | 0, _, _ => none
  | n + 1, v5, τ =>
  (if c3 < v5 then some ((-4 : Int32), τ) else bd (F_X10_isCell (τ.1 (10, 3, 0) 0) τ) fun r3 σ2 => nam (fun  (σ6 : St) => (if (σ6.1 (10, 3, 0) 0) = c2 then some (v5, σ6) else (if (σ6.1 (10, 3, 0) 3) = 0 then bd (F_X6_passTick 3 q1 (0 : Int32) σ6) fun _ σ7 => nam (v5 + (1 : Int32)) fun x9 => L_X2_ticksTill_14 q1 c2 c3 n x9 σ7 else some ((-4 : Int32), σ6)))) fun k5 => (if r3 = 0 then k5  σ2 else ck (inb (σ2.1 (10, 3, 0) 0) 96) (nam (uI σ2 (14, 0, 0) ((σ2.1 (10, 3, 0) 0).toNatClampNeg) (1 : Int32)) fun σ13 => k5  σ13)))
def F_X2_ticksTill (q1 : Nat) (a2 : Int32) (a3 : Int32) (σ : St) : Option (Int32 × St) :=
  ck (inb (0 : Int32) 12) (L_X2_ticksTill_14 q1 a2 a3 FU (0 : Int32) σ )
set_option maxRecDepth 20000 in
set_option maxHeartbeats 4000000 in
theorem l_X2_ticksTill_14 {G : Gx} {p : Program} {l : Launch} {e : Env} {s : State} {m : MethodId} {args : Array Value} {below : List Frame} {meth : Method} {c : Code} (C : Cx G p s m args meth c (some .int) 6 RX2 cX2_ticksTill) (q1 : Nat) (c2 : Int32) (c3 : Int32) {σ' : St} {r : Int32} : ∀ (n : Nat) (v5 : Int32) (τ : St), L_X2_ticksTill_14 q1 c2 c3 n v5 τ = some (r, σ') → Rt G p l e (lvl 4) s m args below meth c 0 0 (MQ below (va_Qi (fun a b => a = r ∧ b = σ') (Wd G) (AG G)) args s 0 0 (AG G)) 6 14 [(0, vR (13, 0, 0)), (1, vR (3, q1, 0)), (2, vI c2), (3, vI c3), (4, vR (10, 3, 0)), (5, vI v5)] [] τ := by
  intro n
  induction n with
  | zero => intro v5 τ hF; cases hF
  | succ n ih =>
    intro v5 τ hF
    unfold L_X2_ticksTill_14 at hF
    refine r_iload C 5 dX2_ticksTill_14 rfl ?_
    refine r_iload_n C 3 3 dX2_ticksTill_16 rfl rfl ?_
    refine r_icmp_gt C 80 dX2_ticksTill_17 (by decide)  (fun h15 => ?_) (fun h15 => ?_)
    · have hF := if_t h15 hF
      refine r_bipush (v := (-4 : Int32)) C dX2_ticksTill_80 rfl ?_
      exact r_ireturn C dX2_ticksTill_82 (rt_e hF)
    · have hF := if_f h15 hF
      refine r_aload C 4 dX2_ticksTill_20 rfl ?_
      refine r_getI (kf := 0) C dX2_ticksTill_22 rfl rfl f_X0 (by decide) t_1_120 rfl ?_
      obtain ⟨r3, σ2, e4, hF⟩ := bd_e hF
      refine r_callN_i (as := [vI (τ.1 (10, 3, 0) 0)]) (st := []) C dX2_ticksTill_25 (s_X10_isCell G l e4) (by decide) t_3_119 t_1_1 t_3_120 m_X10_isCell ⟨Nat.le_of_ble_eq_true rfl, Nat.le_of_ble_eq_true rfl⟩ ⟨rfl, rfl⟩ ⟨Nat.zero_le _, Nat.zero_le _⟩ rfl (Nat.le_of_ble_eq_true rfl) ?_
      obtain ⟨k5, ek5, hF⟩ := nam_e hF
      have hk5 : ∀  (σ6 : St), k5  σ6 = some (r, σ') → Rt G p l e (lvl 4) s m args below meth c 0 0 (MQ below (va_Qi (fun a b => a = r ∧ b = σ') (Wd G) (AG G)) args s 0 0 (AG G)) 6 42 [(0, vR (13, 0, 0)), (1, vR (3, q1, 0)), (2, vI c2), (3, vI c3), (4, vR (10, 3, 0)), (5, vI v5)] [] σ6 := by
        intro  σ6 hF
        subst ek5
        refine r_aload C 4 dX2_ticksTill_42 rfl ?_
        refine r_getI (kf := 0) C dX2_ticksTill_44 rfl rfl f_X0 (by decide) t_1_120 rfl ?_
        refine r_iload_n C 2 2 dX2_ticksTill_47 rfl rfl ?_
        refine r_icmp_ne C 54 dX2_ticksTill_48 (by decide)  (fun h11 => ?_) (fun h11 => ?_)
        · have hF := if_f h11 hF
          refine r_aload C 4 dX2_ticksTill_54 rfl ?_
          refine r_getI (kf := 3) C dX2_ticksTill_56 rfl rfl f_X0 (by decide) t_1_131 rfl ?_
          refine r_if_eq C 65 dX2_ticksTill_59 (by decide)  (fun h10 => ?_) (fun h10 => ?_)
          · have hF := if_t h10 hF
            refine r_aload_n C 0 0 dX2_ticksTill_65 rfl rfl ?_
            refine r_getR (kf := 0) (d2 := (7, 3, 0)) C dX2_ticksTill_66 rfl rfl f_X2 (by decide) t_1_210 rfl rfl ?_
            refine r_aload_n C 1 1 dX2_ticksTill_69 rfl rfl ?_
            refine r_iconst (v := (0 : Int32)) C dX2_ticksTill_70 rfl ?_
            obtain ⟨⟨⟩, σ7, e8, hF⟩ := bd_e hF
            refine r_callV_v (as := [vR (3, q1, 0), vI (0 : Int32)]) (st := []) C dX2_ticksTill_71 (s_X6_passTick G l e8) rfl rfl rfl t_4_66 t_3_179 t_3_180 t_1_5 t_3_181 m_X6_passTick ⟨Nat.le_of_ble_eq_true rfl, Nat.le_of_ble_eq_true rfl⟩ ⟨rfl, rfl⟩ ⟨Nat.zero_le _, Nat.zero_le _⟩ rfl (Nat.le_of_ble_eq_true rfl) ?_
            obtain ⟨x9, ex9, hF⟩ := nam_e hF
            refine r_iinc (v := x9) (ls2 := [(5, vI x9), (0, vR (13, 0, 0)), (1, vR (3, q1, 0)), (2, vI c2), (3, vI c3), (4, vR (10, 3, 0))]) C 5 dX2_ticksTill_74 rfl ex9.symm (by decide) rfl ?_
            refine r_goto C 14 dX2_ticksTill_77 (by decide) ?_
            refine r_drop (ls2 := [(0, vR (13, 0, 0)), (1, vR (3, q1, 0)), (2, vI c2), (3, vI c3), (4, vR (10, 3, 0)), (5, vI x9)]) [1, 2, 3, 4, 5, 0] rfl ?_
            exact ih _ _ hF
          · have hF := if_f h10 hF
            refine r_bipush (v := (-4 : Int32)) C dX2_ticksTill_62 rfl ?_
            exact r_ireturn C dX2_ticksTill_64 (rt_e hF)
        · have hF := if_t h11 hF
          refine r_iload C 5 dX2_ticksTill_51 rfl ?_
          exact r_ireturn C dX2_ticksTill_53 (rt_e hF)
      refine r_if_eq C 42 dX2_ticksTill_28 (by decide)  (fun h14 => ?_) (fun h14 => ?_)
      · have hF := if_t h14 hF
        exact hk5 _ hF
      · have hF := if_f h14 hF
        refine r_aload_n C 0 0 dX2_ticksTill_31 rfl rfl ?_
        refine r_getR (kf := 1) (d2 := (14, 0, 0)) C dX2_ticksTill_32 rfl rfl f_X2 (by decide) t_1_211 rfl rfl ?_
        refine r_aload C 4 dX2_ticksTill_35 rfl ?_
        refine r_getI (kf := 0) C dX2_ticksTill_37 rfl rfl f_X0 (by decide) t_1_120 rfl ?_
        refine r_iconst (v := (1 : Int32)) C dX2_ticksTill_40 rfl ?_
        obtain ⟨h12, hF⟩ := ck_e hF
        obtain ⟨σ13, eσ13, hF⟩ := nam_e hF
        refine r_iastore C ((σ2.1 (10, 3, 0) 0).toNatClampNeg) dX2_ticksTill_41 rfl h12 rfl eσ13 ?_
        exact hk5 _ hF
set_option maxRecDepth 20000 in
set_option maxHeartbeats 4000000 in
theorem s_X2_ticksTill (G : Gx) (l : Launch) {q1 : Nat} {a2 : Int32} {a3 : Int32} {σ σ' : St} {r : Int32} (hF : F_X2_ticksTill q1 a2 a3 σ = some (r, σ')) : Sp G l yX2_ticksTill cX2_ticksTill 6 (some .int) (lvl 4) [vR (13, 0, 0), vR (3, q1, 0), vI a2, vI a3] σ (va_Qi (fun a b => a = r ∧ b = σ') (Wd G) (AG G)) := by
  refine Sp_of (own := RX2) (by decide) rfl (Nat.le_of_ble_eq_true rfl) ?_
  intro p e s m args below meth c C
  show Rt G p l e (lvl 4) s m args below meth c 0 0 (MQ below (va_Qi (fun a b => a = r ∧ b = σ') (Wd G) (AG G)) args s 0 0 (AG G)) 6 0 [(0, vR (13, 0, 0)), (1, vR (3, q1, 0)), (2, vI a2), (3, vI a3)] [] σ
  unfold F_X2_ticksTill at hF
  refine r_aload_n C 0 0 dX2_ticksTill_0 rfl rfl ?_
  refine r_getR (kf := 0) (d2 := (7, 3, 0)) C dX2_ticksTill_1 rfl rfl f_X2 (by decide) t_1_210 rfl rfl ?_
  refine r_getR (kf := 1) (d2 := (9, 3, 0)) C dX2_ticksTill_4 rfl rfl f_X6 (by decide) t_1_157 rfl rfl ?_
  refine r_iconst (v := (0 : Int32)) C dX2_ticksTill_7 rfl ?_
  obtain ⟨h1, hF⟩ := ck_e hF
  refine r_aaload (cA := 0) (d2 := (10, 3, 0)) C dX2_ticksTill_8 rfl rfl h1 rfl ?_
  refine r_astore (ls2 := [(4, vR (10, 3, 0)), (0, vR (13, 0, 0)), (1, vR (3, q1, 0)), (2, vI a2), (3, vI a3)]) C dX2_ticksTill_9 (by decide) rfl ?_
  refine r_iconst (v := (0 : Int32)) C dX2_ticksTill_11 rfl ?_
  refine r_istore (ls2 := [(5, vI (0 : Int32)), (4, vR (10, 3, 0)), (0, vR (13, 0, 0)), (1, vR (3, q1, 0)), (2, vI a2), (3, vI a3)]) C dX2_ticksTill_12 (by decide) rfl ?_
  refine r_drop (ls2 := [(0, vR (13, 0, 0)), (1, vR (3, q1, 0)), (2, vI a2), (3, vI a3), (4, vR (10, 3, 0)), (5, vI (0 : Int32))]) [2, 3, 4, 5, 1, 0] rfl ?_
  refine l_X2_ticksTill_14 C q1 a2 a3  _ _ _ hF
def F_X10_reach (a1 : Int32) (a2 : Int32) (a3 : Int32) (a4 : Int32) (σ : St) : Option (Int32 × St) :=
  bd (F_X10_isDropToBe a1 a2 a3 σ) fun r2 σ1 => (if r2 = 0 then some ((-1 : Int32), σ1) else bd (F_X10_isCell a4 σ1) fun r5 σ4 => (if r5 = 0 then some ((-1 : Int32), σ4) else bd (F_X6_isOpen 0 a1 σ4) fun r8 σ7 => (if r8 = 0 then some ((-2 : Int32), σ7) else bd (F_X2_begin 0 a1 a2 a3 σ7) fun _ σ10 => bd (F_X2_ticksTill 0 a4 (400 : Int32) σ10) fun r13 σ12 => some (r13, σ12))))
set_option maxRecDepth 20000 in
set_option maxHeartbeats 4000000 in
theorem s_X10_reach (G : Gx) (l : Launch) {a1 : Int32} {a2 : Int32} {a3 : Int32} {a4 : Int32} {σ σ' : St} {r : Int32} (hF : F_X10_reach a1 a2 a3 a4 σ = some (r, σ')) : Sp G l yX10_reach cX10_reach 5 (some .int) (lvl 5) [vR (0, 0, 0), vI a1, vI a2, vI a3, vI a4] σ (va_Qi (fun a b => a = r ∧ b = σ') (Wd G) (AG G)) := by
  refine Sp_of (own := RX10) (by decide) rfl (Nat.le_of_ble_eq_true rfl) ?_
  intro p e s m args below meth c C
  show Rt G p l e (lvl 5) s m args below meth c 0 0 (MQ below (va_Qi (fun a b => a = r ∧ b = σ') (Wd G) (AG G)) args s 0 0 (AG G)) 5 0 [(0, vR (0, 0, 0)), (1, vI a1), (2, vI a2), (3, vI a3), (4, vI a4)] [] σ
  unfold F_X10_reach at hF
  refine r_iload_n C 1 1 dX10_reach_0 rfl rfl ?_
  refine r_iload_n C 2 2 dX10_reach_1 rfl rfl ?_
  refine r_iload_n C 3 3 dX10_reach_2 rfl rfl ?_
  obtain ⟨r2, σ1, e3, hF⟩ := bd_e hF
  refine r_callS_i (as := [vI a1, vI a2, vI a3]) (st := []) C dX10_reach_3 (s_X10_isDropToBe G l e3) t_3_152 t_3_153 t_1_1 t_3_154 m_X10_isDropToBe ⟨Nat.le_of_ble_eq_true rfl, Nat.le_of_ble_eq_true rfl⟩ ⟨rfl, rfl⟩ ⟨Nat.zero_le _, Nat.zero_le _⟩ rfl (Nat.le_of_ble_eq_true rfl) ?_
  refine r_if_eq C 17 dX10_reach_6 (by decide)  (fun h17 => ?_) (fun h17 => ?_)
  · have hF := if_t h17 hF
    refine r_iconst (v := (-1 : Int32)) C dX10_reach_17 rfl ?_
    exact r_ireturn C dX10_reach_18 (rt_e hF)
  · have hF := if_f h17 hF
    refine r_iload C 4 dX10_reach_9 rfl ?_
    obtain ⟨r5, σ4, e6, hF⟩ := bd_e hF
    refine r_callS_i (as := [vI a4]) (st := []) C dX10_reach_11 (s_X10_isCell G l e6) t_3_118 t_3_119 t_1_1 t_3_120 m_X10_isCell ⟨Nat.le_of_ble_eq_true rfl, Nat.le_of_ble_eq_true rfl⟩ ⟨rfl, rfl⟩ ⟨Nat.zero_le _, Nat.zero_le _⟩ rfl (Nat.le_of_ble_eq_true rfl) ?_
    refine r_if_ne C 19 dX10_reach_14 (by decide)  (fun h16 => ?_) (fun h16 => ?_)
    · have hF := if_f h16 hF
      refine r_aload_n C 0 0 dX10_reach_19 rfl rfl ?_
      refine r_getR (kf := 4) (d2 := (7, 0, 0)) C dX10_reach_20 rfl rfl f_X10 (by decide) t_2_100 rfl rfl ?_
      refine r_iload_n C 1 1 dX10_reach_23 rfl rfl ?_
      obtain ⟨r8, σ7, e9, hF⟩ := bd_e hF
      refine r_callV_i (as := [vI a1]) (st := []) C dX10_reach_24 (s_X6_isOpen G l e9) rfl rfl rfl t_3_161 t_3_162 t_3_163 t_1_5 t_3_164 m_X6_isOpen ⟨Nat.le_of_ble_eq_true rfl, Nat.le_of_ble_eq_true rfl⟩ ⟨rfl, rfl⟩ ⟨Nat.zero_le _, Nat.zero_le _⟩ rfl (Nat.le_of_ble_eq_true rfl) ?_
      refine r_if_ne C 33 dX10_reach_27 (by decide)  (fun h15 => ?_) (fun h15 => ?_)
      · have hF := if_f h15 hF
        refine r_aload_n C 0 0 dX10_reach_33 rfl rfl ?_
        refine r_getR (kf := 6) (d2 := (13, 0, 0)) C dX10_reach_34 rfl rfl f_X10 (by decide) t_2_102 rfl rfl ?_
        refine r_aload_n C 0 0 dX10_reach_37 rfl rfl ?_
        refine r_getR (kf := 4) (d2 := (7, 0, 0)) C dX10_reach_38 rfl rfl f_X10 (by decide) t_2_100 rfl rfl ?_
        refine r_iload_n C 1 1 dX10_reach_41 rfl rfl ?_
        refine r_iload_n C 2 2 dX10_reach_42 rfl rfl ?_
        refine r_iload_n C 3 3 dX10_reach_43 rfl rfl ?_
        obtain ⟨⟨⟩, σ10, e11, hF⟩ := bd_e hF
        refine r_callV_v (as := [vR (7, 0, 0), vI a1, vI a2, vI a3]) (st := []) C dX10_reach_44 (s_X2_begin G l e11) rfl rfl rfl t_4_53 t_4_54 t_4_55 t_1_8 t_4_56 m_X2_begin ⟨Nat.le_of_ble_eq_true rfl, Nat.le_of_ble_eq_true rfl⟩ ⟨rfl, rfl⟩ ⟨Nat.zero_le _, Nat.zero_le _⟩ rfl (Nat.le_of_ble_eq_true rfl) ?_
        refine r_aload_n C 0 0 dX10_reach_47 rfl rfl ?_
        refine r_getR (kf := 6) (d2 := (13, 0, 0)) C dX10_reach_48 rfl rfl f_X10 (by decide) t_2_102 rfl rfl ?_
        refine r_aload_n C 0 0 dX10_reach_51 rfl rfl ?_
        refine r_getR (kf := 3) (d2 := (3, 0, 0)) C dX10_reach_52 rfl rfl f_X10 (by decide) t_2_99 rfl rfl ?_
        refine r_iload C 4 dX10_reach_55 rfl ?_
        refine r_sipush (v := (400 : Int32)) C dX10_reach_57 rfl ?_
        obtain ⟨r13, σ12, e14, hF⟩ := bd_e hF
        refine r_callV_i (as := [vR (3, 0, 0), vI a4, vI (400 : Int32)]) (st := []) C dX10_reach_60 (s_X2_ticksTill G l e14) rfl rfl rfl t_4_71 t_4_72 t_4_73 t_1_8 t_4_74 m_X2_ticksTill ⟨Nat.le_of_ble_eq_true rfl, Nat.le_of_ble_eq_true rfl⟩ ⟨rfl, rfl⟩ ⟨Nat.zero_le _, Nat.zero_le _⟩ rfl (Nat.le_of_ble_eq_true rfl) ?_
        exact r_ireturn C dX10_reach_63 (rt_e hF)
      · have hF := if_t h15 hF
        refine r_bipush (v := (-2 : Int32)) C dX10_reach_30 rfl ?_
        exact r_ireturn C dX10_reach_32 (rt_e hF)
    · have hF := if_t h16 hF
      refine r_iconst (v := (-1 : Int32)) C dX10_reach_17 rfl ?_
      exact r_ireturn C dX10_reach_18 (rt_e hF)
def L_J7_fill_53178_t17_5 (c1 : Int32) (c3 : Int32) : Nat → Int32 → St → Option (Unit × St)
  | 0, _, _ => none
  | n + 1, v2, τ =>
  (if c3 ≤ v2 then some ((), τ) else ck (inb v2 384) (nam (uI τ (17, 0, 0) (v2.toNatClampNeg) c1) fun σ2 => nam (v2 + (1 : Int32)) fun x3 => L_J7_fill_53178_t17_5 c1 c3 n x3 σ2))
def F_J7_fill_53178_t17 (a1 : Int32) (σ : St) : Option (Unit × St) :=
  L_J7_fill_53178_t17_5 a1 (384 : Int32) FU (0 : Int32) σ 
set_option maxRecDepth 20000 in
set_option maxHeartbeats 4000000 in
theorem l_J7_fill_53178_t17_5 {G : Gx} {p : Program} {l : Launch} {e : Env} {s : State} {m : MethodId} {args : Array Value} {below : List Frame} {meth : Method} {c : Code} (C : Cx G p s m args meth c none 4 RJ7 cJ7_fill_53178) (c1 : Int32) (c3 : Int32) {σ' : St}  : ∀ (n : Nat) (v2 : Int32) (τ : St), L_J7_fill_53178_t17_5 c1 c3 n v2 τ = some ((), σ') → Rt G p l e (lvl 0) s m args below meth c 0 0 (MQ below (va_Qv (fun b => b = σ') (Wd G) (AG G)) args s 0 0 (AG G)) 4 5 [(0, vR (17, 0, 0)), (1, vI c1), (2, vI v2), (3, vI c3)] [] τ := by
  intro n
  induction n with
  | zero => intro v2 τ hF; cases hF
  | succ n ih =>
    intro v2 τ hF
    unfold L_J7_fill_53178_t17_5 at hF
    refine r_iload_n C 2 2 dJ7_fill_53178_5 rfl rfl ?_
    refine r_iload_n C 3 3 dJ7_fill_53178_6 rfl rfl ?_
    refine r_icmp_ge C 20 dJ7_fill_53178_7 (by decide)  (fun h4 => ?_) (fun h4 => ?_)
    · have hF := if_t h4 hF
      exact r_return C dJ7_fill_53178_20 (rv_e hF)
    · have hF := if_f h4 hF
      refine r_aload_n C 0 0 dJ7_fill_53178_10 rfl rfl ?_
      refine r_iload_n C 2 2 dJ7_fill_53178_11 rfl rfl ?_
      refine r_iload_n C 1 1 dJ7_fill_53178_12 rfl rfl ?_
      obtain ⟨h1, hF⟩ := ck_e hF
      obtain ⟨σ2, eσ2, hF⟩ := nam_e hF
      refine r_iastore C (v2.toNatClampNeg) dJ7_fill_53178_13 rfl h1 rfl eσ2 ?_
      obtain ⟨x3, ex3, hF⟩ := nam_e hF
      refine r_iinc (v := x3) (ls2 := [(2, vI x3), (0, vR (17, 0, 0)), (1, vI c1), (3, vI c3)]) C 2 dJ7_fill_53178_14 rfl ex3.symm (by decide) rfl ?_
      refine r_goto C 5 dJ7_fill_53178_17 (by decide) ?_
      refine r_drop (ls2 := [(0, vR (17, 0, 0)), (1, vI c1), (2, vI x3), (3, vI c3)]) [1, 2, 0, 3] rfl ?_
      exact ih _ _ hF
set_option maxRecDepth 20000 in
set_option maxHeartbeats 4000000 in
theorem s_J7_fill_53178_t17 (G : Gx) (l : Launch) {a1 : Int32} {σ σ' : St}  (hF : F_J7_fill_53178_t17 a1 σ = some ((), σ')) : Sp G l yJ7_fill_53178 cJ7_fill_53178 4 none (lvl 0) [vR (17, 0, 0), vI a1] σ (va_Qv (fun b => b = σ') (Wd G) (AG G)) := by
  refine Sp_of (own := RJ7) (by decide) rfl (Nat.le_of_ble_eq_true rfl) ?_
  intro p e s m args below meth c C
  show Rt G p l e (lvl 0) s m args below meth c 0 0 (MQ below (va_Qv (fun b => b = σ') (Wd G) (AG G)) args s 0 0 (AG G)) 4 0 [(0, vR (17, 0, 0)), (1, vI a1)] [] σ
  unfold F_J7_fill_53178_t17 at hF
  refine r_iconst (v := (0 : Int32)) C dJ7_fill_53178_0 rfl ?_
  refine r_istore_n (ls2 := [(2, vI (0 : Int32)), (0, vR (17, 0, 0)), (1, vI a1)]) C dJ7_fill_53178_1 2 rfl (by decide) rfl ?_
  refine r_aload_n C 1 0 dJ7_fill_53178_2 rfl rfl ?_
  refine r_alen (v := (384 : Int32)) C dJ7_fill_53178_3 rfl (by decide) rfl rfl ?_
  refine r_istore_n (ls2 := [(3, vI (384 : Int32)), (2, vI (0 : Int32)), (0, vR (17, 0, 0)), (1, vI a1)]) C dJ7_fill_53178_4 3 rfl (by decide) rfl ?_
  refine r_drop (ls2 := [(0, vR (17, 0, 0)), (1, vI a1), (2, vI (0 : Int32)), (3, vI (384 : Int32))]) [2, 3, 1, 0] rfl ?_
  refine l_J7_fill_53178_t17_5 C a1 (384 : Int32)  _ _ _ hF
def L_X3_follow_24 (q1 : Nat) (q2 : Nat) : Nat → Int32 → St → (Int32 → Int32 → St → Option (Int32 × St)) → Option (Int32 × St)
  | 0, _, _, _ => none
  | n + 1, v6, τ, kx78 =>
  (if (384 : Int32) < v6 then some ((-4 : Int32), τ) else nam (((τ.1 (10, 4, 0) 0) * (4 : Int32)) + (τ.1 (10, 4, 0) 2)) fun x5 => bd (F_X10_within x5 (0 : Int32) (383 : Int32) τ) fun r7 σ6 => (if r7 = 0 then some ((-4 : Int32), σ6) else ck (inb x5 384) ((if (σ6.1 (17, 0, 0) (x5.toNatClampNeg)) = (-4 : Int32) then ck (inb x5 384) (nam (uI σ6 (17, 0, 0) (x5.toNatClampNeg) v6) fun σ11 => bd (F_X6_wayOf q1 4 0 q2 (0 : Int32) σ11) fun r13 σ12 => bd (F_X6_stepOn q1 4 0 r13 σ12) fun _ σ15 => bd (F_X6_kindAt q1 (σ15.1 (10, 4, 0) 0) σ15) fun r18 σ17 => (if r18 = (6 : Int32) then some (σ17.1 (10, 4, 0) 0, σ17) else nam (v6 + (1 : Int32)) fun x20 => L_X3_follow_24 q1 q2 n x20 σ17 kx78)) else kx78 v6 x5 σ6))))
def F_X3_follow (q1 : Nat) (q2 : Nat) (a3 : Int32) (a4 : Int32) (a5 : Int32) (σ : St) : Option (Int32 × St) :=
  bd (F_J7_fill_53178_t17 (-4 : Int32) σ) fun _ σ1 => bd (F_X0_begin 4 0 a3 a4 a5 σ1) fun _ σ3 => L_X3_follow_24 q1 q2 FU (0 : Int32) σ3 (fun (y26 : Int32) (y27 : Int32) (σ25 : St) => ck (inb y27 384) (nam (uI σ25 (16, 0, 0) 2 (σ25.1 (17, 0, 0) (y27.toNatClampNeg))) fun σ29 => nam (uI σ29 (16, 0, 0) 3 (y26 - (σ29.1 (16, 0, 0) 2))) fun σ30 => some ((-4 : Int32), σ30)))
set_option maxRecDepth 20000 in
set_option maxHeartbeats 4000000 in
theorem l_X3_follow_24 {G : Gx} {p : Program} {l : Launch} {e : Env} {s : State} {m : MethodId} {args : Array Value} {below : List Frame} {meth : Method} {c : Code} (C : Cx G p s m args meth c (some .int) 8 RX3 cX3_follow) (q1 : Nat) (q2 : Nat) {σ' : St} {r : Int32} (kx78 : Int32 → Int32 → St → Option (Int32 × St)) (hkx78 : ∀ (w6 : Int32) (w7 : Int32) (τ : St), kx78 w6 w7 τ = some (r, σ') → Rt G p l e (lvl 2) s m args below meth c 0 0 (MQ below (va_Qi (fun a b => a = r ∧ b = σ') (Wd G) (AG G)) args s 0 0 (AG G)) 8 78 [(0, vR (16, 0, 0)), (6, vI w6), (7, vI w7)] [] τ) : ∀ (n : Nat) (v6 : Int32) (τ : St), L_X3_follow_24 q1 q2 n v6 τ kx78 = some (r, σ') → Rt G p l e (lvl 2) s m args below meth c 0 0 (MQ below (va_Qi (fun a b => a = r ∧ b = σ') (Wd G) (AG G)) args s 0 0 (AG G)) 8 24 [(0, vR (16, 0, 0)), (1, vR (7, q1, 0)), (2, vR (3, q2, 0)), (6, vI v6)] [] τ := by
  intro n
  induction n with
  | zero => intro v6 τ hF; cases hF
  | succ n ih =>
    intro v6 τ hF
    unfold L_X3_follow_24 at hF
    refine r_iload C 3 dX3_follow_24 rfl ?_
    refine r_sipush (v := (384 : Int32)) C dX3_follow_26 rfl ?_
    refine r_icmp_gt C 160 dX3_follow_29 (by decide)  (fun h24 => ?_) (fun h24 => ?_)
    · have hF := if_t h24 hF
      refine r_bipush (v := (-4 : Int32)) C dX3_follow_160 rfl ?_
      exact r_ireturn C dX3_follow_162 (rt_e hF)
    · have hF := if_f h24 hF
      refine r_aload_n C 0 0 dX3_follow_32 rfl rfl ?_
      refine r_getR (kf := 0) (d2 := (10, 4, 0)) C dX3_follow_33 rfl rfl f_X3 (by decide) t_2_9 rfl rfl ?_
      refine r_getI (kf := 0) C dX3_follow_36 rfl rfl f_X0 (by decide) t_1_119 rfl ?_
      refine r_iconst (v := (4 : Int32)) C dX3_follow_39 rfl ?_
      refine r_imul C dX3_follow_40 ?_
      refine r_aload_n C 0 0 dX3_follow_41 rfl rfl ?_
      refine r_getR (kf := 0) (d2 := (10, 4, 0)) C dX3_follow_42 rfl rfl f_X3 (by decide) t_2_9 rfl rfl ?_
      refine r_getI (kf := 2) C dX3_follow_45 rfl rfl f_X0 (by decide) t_1_127 rfl ?_
      refine r_iadd C dX3_follow_48 ?_
      obtain ⟨x5, ex5, hF⟩ := nam_e hF
      refine r_topI ex5 ?_
      refine r_istore (ls2 := [(7, vI x5), (0, vR (16, 0, 0)), (1, vR (7, q1, 0)), (2, vR (3, q2, 0)), (6, vI v6)]) C dX3_follow_49 (by decide) rfl ?_
      refine r_iload C 0 dX3_follow_51 rfl ?_
      refine r_iconst (v := (0 : Int32)) C dX3_follow_53 rfl ?_
      refine r_sipush (v := (383 : Int32)) C dX3_follow_54 rfl ?_
      obtain ⟨r7, σ6, e8, hF⟩ := bd_e hF
      refine r_callN_i (as := [vI x5, vI (0 : Int32), vI (383 : Int32)]) (st := []) C dX3_follow_57 (s_X10_within G l e8) (by decide) t_2_142 t_1_1 t_2_143 m_X10_within ⟨Nat.le_of_ble_eq_true rfl, Nat.le_of_ble_eq_true rfl⟩ ⟨rfl, rfl⟩ ⟨Nat.zero_le _, Nat.zero_le _⟩ rfl (Nat.le_of_ble_eq_true rfl) ?_
      refine r_if_ne C 66 dX3_follow_60 (by decide)  (fun h23 => ?_) (fun h23 => ?_)
      · have hF := if_f h23 hF
        refine r_aload_n C 1 0 dX3_follow_66 rfl rfl ?_
        refine r_getR (kf := 1) (d2 := (17, 0, 0)) C dX3_follow_67 rfl rfl f_X3 (by decide) t_2_10 rfl rfl ?_
        refine r_iload C 0 dX3_follow_70 rfl ?_
        obtain ⟨h9, hF⟩ := ck_e hF
        refine r_iaload C (x5.toNatClampNeg) dX3_follow_72 rfl h9 rfl ?_
        refine r_bipush (v := (-4 : Int32)) C dX3_follow_73 rfl ?_
        refine r_icmp_eq C 103 dX3_follow_75 (by decide)  (fun h22 => ?_) (fun h22 => ?_)
        · have hF := if_t h22 hF
          refine r_aload_n C 1 0 dX3_follow_103 rfl rfl ?_
          refine r_getR (kf := 1) (d2 := (17, 0, 0)) C dX3_follow_104 rfl rfl f_X3 (by decide) t_2_10 rfl rfl ?_
          refine r_iload C 0 dX3_follow_107 rfl ?_
          refine r_iload C 4 dX3_follow_109 rfl ?_
          obtain ⟨h10, hF⟩ := ck_e hF
          obtain ⟨σ11, eσ11, hF⟩ := nam_e hF
          refine r_iastore C (x5.toNatClampNeg) dX3_follow_111 rfl h10 rfl eσ11 ?_
          refine r_aload_n C 2 1 dX3_follow_112 rfl rfl ?_
          refine r_aload_n C 1 0 dX3_follow_113 rfl rfl ?_
          refine r_getR (kf := 0) (d2 := (10, 4, 0)) C dX3_follow_114 rfl rfl f_X3 (by decide) t_2_9 rfl rfl ?_
          refine r_aload_n C 2 1 dX3_follow_117 rfl rfl ?_
          refine r_aload_n C 1 0 dX3_follow_118 rfl rfl ?_
          refine r_getR (kf := 0) (d2 := (10, 4, 0)) C dX3_follow_119 rfl rfl f_X3 (by decide) t_2_9 rfl rfl ?_
          refine r_aload_n C 3 2 dX3_follow_122 rfl rfl ?_
          refine r_iconst (v := (0 : Int32)) C dX3_follow_123 rfl ?_
          obtain ⟨r13, σ12, e14, hF⟩ := bd_e hF
          refine r_callV_i (as := [vR (10, 4, 0), vR (3, q2, 0), vI (0 : Int32)]) (st := [vR (10, 4, 0), vR (7, q1, 0)]) C dX3_follow_124 (s_X6_wayOf G l e14) rfl rfl rfl t_4_87 t_3_216 t_3_217 t_1_5 t_3_218 m_X6_wayOf ⟨Nat.le_of_ble_eq_true rfl, Nat.le_of_ble_eq_true rfl⟩ ⟨rfl, rfl⟩ ⟨Nat.zero_le _, Nat.zero_le _⟩ rfl (Nat.le_of_ble_eq_true rfl) ?_
          obtain ⟨⟨⟩, σ15, e16, hF⟩ := bd_e hF
          refine r_callV_v (as := [vR (10, 4, 0), vI r13]) (st := []) C dX3_follow_127 (s_X6_stepOn G l e16) rfl rfl rfl t_4_88 t_3_229 t_3_230 t_1_5 t_3_231 m_X6_stepOn ⟨Nat.le_of_ble_eq_true rfl, Nat.le_of_ble_eq_true rfl⟩ ⟨rfl, rfl⟩ ⟨Nat.zero_le _, Nat.zero_le _⟩ rfl (Nat.le_of_ble_eq_true rfl) ?_
          refine r_aload_n C 2 1 dX3_follow_130 rfl rfl ?_
          refine r_aload_n C 1 0 dX3_follow_131 rfl rfl ?_
          refine r_getR (kf := 0) (d2 := (10, 4, 0)) C dX3_follow_132 rfl rfl f_X3 (by decide) t_2_9 rfl rfl ?_
          refine r_getI (kf := 0) C dX3_follow_135 rfl rfl f_X0 (by decide) t_1_119 rfl ?_
          obtain ⟨r18, σ17, e19, hF⟩ := bd_e hF
          refine r_callV_i (as := [vI (σ15.1 (10, 4, 0) 0)]) (st := []) C dX3_follow_138 (s_X6_kindAt G l e19) rfl rfl rfl t_4_89 t_3_122 t_3_123 t_1_5 t_3_124 m_X6_kindAt ⟨Nat.le_of_ble_eq_true rfl, Nat.le_of_ble_eq_true rfl⟩ ⟨rfl, rfl⟩ ⟨Nat.zero_le _, Nat.zero_le _⟩ rfl (Nat.le_of_ble_eq_true rfl) ?_
          refine r_bipush (v := (6 : Int32)) C dX3_follow_141 rfl ?_
          refine r_icmp_ne C 154 dX3_follow_143 (by decide)  (fun h21 => ?_) (fun h21 => ?_)
          · have hF := if_f h21 hF
            obtain ⟨x20, ex20, hF⟩ := nam_e hF
            refine r_iinc (v := x20) (ls2 := [(6, vI x20), (7, vI x5), (0, vR (16, 0, 0)), (1, vR (7, q1, 0)), (2, vR (3, q2, 0))]) C 4 dX3_follow_154 rfl ex20.symm (by decide) rfl ?_
            refine r_goto C 24 dX3_follow_157 (by decide) ?_
            refine r_drop (ls2 := [(0, vR (16, 0, 0)), (1, vR (7, q1, 0)), (2, vR (3, q2, 0)), (6, vI x20)]) [2, 3, 4, 0] rfl ?_
            exact ih _ _ hF
          · have hF := if_t h21 hF
            refine r_aload_n C 1 0 dX3_follow_146 rfl rfl ?_
            refine r_getR (kf := 0) (d2 := (10, 4, 0)) C dX3_follow_147 rfl rfl f_X3 (by decide) t_2_9 rfl rfl ?_
            refine r_getI (kf := 0) C dX3_follow_150 rfl rfl f_X0 (by decide) t_1_119 rfl ?_
            exact r_ireturn C dX3_follow_153 (rt_e hF)
        · have hF := if_f h22 hF
          refine r_drop (ls2 := [(0, vR (16, 0, 0)), (6, vI v6), (7, vI x5)]) [1, 4, 0] rfl ?_
          exact hkx78 _ _ _ hF
      · have hF := if_t h23 hF
        refine r_bipush (v := (-4 : Int32)) C dX3_follow_63 rfl ?_
        exact r_ireturn C dX3_follow_65 (rt_e hF)
set_option maxRecDepth 20000 in
set_option maxHeartbeats 4000000 in
theorem s_X3_follow (G : Gx) (l : Launch) {q1 : Nat} {q2 : Nat} {a3 : Int32} {a4 : Int32} {a5 : Int32} {σ σ' : St} {r : Int32} (hF : F_X3_follow q1 q2 a3 a4 a5 σ = some (r, σ')) : Sp G l yX3_follow cX3_follow 8 (some .int) (lvl 2) [vR (16, 0, 0), vR (7, q1, 0), vR (3, q2, 0), vI a3, vI a4, vI a5] σ (va_Qi (fun a b => a = r ∧ b = σ') (Wd G) (AG G)) := by
  refine Sp_of (own := RX3) (by decide) rfl (Nat.le_of_ble_eq_true rfl) ?_
  intro p e s m args below meth c C
  show Rt G p l e (lvl 2) s m args below meth c 0 0 (MQ below (va_Qi (fun a b => a = r ∧ b = σ') (Wd G) (AG G)) args s 0 0 (AG G)) 8 0 [(0, vR (16, 0, 0)), (1, vR (7, q1, 0)), (2, vR (3, q2, 0)), (3, vI a3), (4, vI a4), (5, vI a5)] [] σ
  unfold F_X3_follow at hF
  refine r_aload_n C 0 0 dX3_follow_0 rfl rfl ?_
  refine r_getR (kf := 1) (d2 := (17, 0, 0)) C dX3_follow_1 rfl rfl f_X3 (by decide) t_2_10 rfl rfl ?_
  refine r_bipush (v := (-4 : Int32)) C dX3_follow_4 rfl ?_
  obtain ⟨⟨⟩, σ1, e2, hF⟩ := bd_e hF
  refine r_callS_v (as := [vR (17, 0, 0), vI (-4 : Int32)]) (st := []) C dX3_follow_6 (s_J7_fill_53178_t17 G l e2) t_4_84 t_1_111 t_1_6 t_1_112 m_J7_fill_53178 ⟨Nat.le_of_ble_eq_true rfl, Nat.le_of_ble_eq_true rfl⟩ ⟨rfl, rfl⟩ ⟨Nat.zero_le _, Nat.zero_le _⟩ rfl (Nat.le_of_ble_eq_true rfl) ?_
  refine r_aload_n C 0 0 dX3_follow_9 rfl rfl ?_
  refine r_getR (kf := 0) (d2 := (10, 4, 0)) C dX3_follow_10 rfl rfl f_X3 (by decide) t_2_9 rfl rfl ?_
  refine r_iload_n C 3 3 dX3_follow_13 rfl rfl ?_
  refine r_iload C 4 dX3_follow_14 rfl ?_
  refine r_iload C 5 dX3_follow_16 rfl ?_
  obtain ⟨⟨⟩, σ3, e4, hF⟩ := bd_e hF
  refine r_callV_v (as := [vI a3, vI a4, vI a5]) (st := []) C dX3_follow_18 (s_X0_begin G l e4) rfl rfl rfl t_4_85 t_3_171 t_3_172 t_1_7 t_3_173 m_X0_begin ⟨Nat.le_of_ble_eq_true rfl, Nat.le_of_ble_eq_true rfl⟩ ⟨rfl, rfl⟩ ⟨Nat.zero_le _, Nat.zero_le _⟩ rfl (Nat.le_of_ble_eq_true rfl) ?_
  refine r_iconst (v := (0 : Int32)) C dX3_follow_21 rfl ?_
  refine r_istore (ls2 := [(6, vI (0 : Int32)), (0, vR (16, 0, 0)), (1, vR (7, q1, 0)), (2, vR (3, q2, 0)), (3, vI a3), (4, vI a4), (5, vI a5)]) C dX3_follow_22 (by decide) rfl ?_
  refine r_drop (ls2 := [(0, vR (16, 0, 0)), (1, vR (7, q1, 0)), (2, vR (3, q2, 0)), (6, vI (0 : Int32))]) [1, 2, 3, 0] rfl ?_
  refine l_X3_follow_24 C q1 q2 _ ?_ _ _ _ hF
  · intro y26 y27 σ25 hF
    refine r_aload_n C 0 0 dX3_follow_78 rfl rfl ?_
    refine r_aload_n C 0 0 dX3_follow_79 rfl rfl ?_
    refine r_getR (kf := 1) (d2 := (17, 0, 0)) C dX3_follow_80 rfl rfl f_X3 (by decide) t_2_10 rfl rfl ?_
    refine r_iload C 2 dX3_follow_83 rfl ?_
    obtain ⟨h28, hF⟩ := ck_e hF
    refine r_iaload C (y27.toNatClampNeg) dX3_follow_85 rfl h28 rfl ?_
    obtain ⟨σ29, eσ29, hF⟩ := nam_e hF
    refine r_put (kf := 2) (ty0 := tyX3) C dX3_follow_86 rfl rfl f_X3 tyX3_ok nmX3 (by decide) t_2_11 rfl rfl rfl rfl eσ29 ?_
    refine r_aload_n C 0 0 dX3_follow_89 rfl rfl ?_
    refine r_iload C 1 dX3_follow_90 rfl ?_
    refine r_aload_n C 0 0 dX3_follow_92 rfl rfl ?_
    refine r_getI (kf := 2) C dX3_follow_93 rfl rfl f_X3 (by decide) t_2_11 rfl ?_
    refine r_isub C dX3_follow_96 ?_
    obtain ⟨σ30, eσ30, hF⟩ := nam_e hF
    refine r_put (kf := 3) (ty0 := tyX3) C dX3_follow_97 rfl rfl f_X3 tyX3_ok nmX3 (by decide) t_2_13 rfl rfl rfl rfl eσ30 ?_
    refine r_bipush (v := (-4 : Int32)) C dX3_follow_100 rfl ?_
    exact r_ireturn C dX3_follow_102 (rt_e hF)
def L_X3_cellsRound_15 (c1 : Int32) (c2 : Int32) : Nat → Int32 → Int32 → St → (Int32 → St → Option (Int32 × St)) → Option (Int32 × St)
  | 0, _, _, _, _ => none
  | n + 1, v3, v4, τ, kx55 =>
  (if (4 : Int32) ≤ v4 then kx55 v3 τ else nam (fun (y1 : Int32) (σ3 : St) => nam (v4 + (1 : Int32)) fun x4 => L_X3_cellsRound_15 c1 c2 n y1 x4 σ3 kx55) fun k2 => (if v3 = 0 then ck (inb ((c2 * (4 : Int32)) + v4) 384) ((if (τ.1 (17, 0, 0) (((c2 * (4 : Int32)) + v4).toNatClampNeg)) < (τ.1 (16, 0, 0) 2) then k2 (0 : Int32) τ else k2 (1 : Int32) τ)) else k2 (1 : Int32) τ))
def L_X3_cellsRound_4  : Nat → Int32 → Int32 → St → Option (Int32 × St)
  | 0, _, _, _ => none
  | n + 1, v1, v2, τ =>
  (if (96 : Int32) ≤ v2 then some (v1, τ) else L_X3_cellsRound_15 v1 v2 FU (0 : Int32) (0 : Int32) τ (fun (y10 : Int32) (σ9 : St) => nam (fun (y11 : Int32) (σ13 : St) => nam (v1 + y11) fun x14 => nam (v2 + (1 : Int32)) fun x15 => L_X3_cellsRound_4 n x14 x15 σ13) fun k12 => (if y10 = 0 then k12 (0 : Int32) σ9 else k12 (1 : Int32) σ9)))
def F_X3_cellsRound  (σ : St) : Option (Int32 × St) :=
  L_X3_cellsRound_4  FU (0 : Int32) (0 : Int32) σ 
set_option maxRecDepth 20000 in
set_option maxHeartbeats 4000000 in
theorem l_X3_cellsRound_15 {G : Gx} {p : Program} {l : Launch} {e : Env} {s : State} {m : MethodId} {args : Array Value} {below : List Frame} {meth : Method} {c : Code} (C : Cx G p s m args meth c (some .int) 5 RX3 cX3_cellsRound) (c1 : Int32) (c2 : Int32) {σ' : St} {r : Int32} (kx55 : Int32 → St → Option (Int32 × St)) (hkx55 : ∀ (w3 : Int32) (τ : St), kx55 w3 τ = some (r, σ') → Rt G p l e (lvl 0) s m args below meth c 0 0 (MQ below (va_Qi (fun a b => a = r ∧ b = σ') (Wd G) (AG G)) args s 0 0 (AG G)) 5 55 [(0, vR (16, 0, 0)), (1, vI c1), (2, vI c2), (3, vI w3)] [] τ) : ∀ (n : Nat) (v3 : Int32) (v4 : Int32) (τ : St), L_X3_cellsRound_15 c1 c2 n v3 v4 τ kx55 = some (r, σ') → Rt G p l e (lvl 0) s m args below meth c 0 0 (MQ below (va_Qi (fun a b => a = r ∧ b = σ') (Wd G) (AG G)) args s 0 0 (AG G)) 5 15 [(0, vR (16, 0, 0)), (1, vI c1), (2, vI c2), (3, vI v3), (4, vI v4)] [] τ := by
  intro n
  induction n with
  | zero => intro v3 v4 τ hF; cases hF
  | succ n ih =>
    intro v3 v4 τ hF
    unfold L_X3_cellsRound_15 at hF
    refine r_iload C 4 dX3_cellsRound_15 rfl ?_
    refine r_iconst (v := (4 : Int32)) C dX3_cellsRound_17 rfl ?_
    refine r_icmp_ge C 55 dX3_cellsRound_18 (by decide)  (fun h8 => ?_) (fun h8 => ?_)
    · have hF := if_t h8 hF
      refine r_drop (ls2 := [(0, vR (16, 0, 0)), (1, vI c1), (2, vI c2), (3, vI v3)]) [0, 1, 2, 3] rfl ?_
      exact hkx55 _ _ hF
    · have hF := if_f h8 hF
      refine r_iload_n C 3 3 dX3_cellsRound_21 rfl rfl ?_
      obtain ⟨k2, ek2, hF⟩ := nam_e hF
      have hk2 : ∀ (y1 : Int32) (σ3 : St), k2 y1 σ3 = some (r, σ') → Rt G p l e (lvl 0) s m args below meth c 0 0 (MQ below (va_Qi (fun a b => a = r ∧ b = σ') (Wd G) (AG G)) args s 0 0 (AG G)) 5 48 [(0, vR (16, 0, 0)), (1, vI c1), (2, vI c2), (4, vI v4)] [vI y1] σ3 := by
        intro y1 σ3 hF
        subst ek2
        refine r_istore_n (ls2 := [(3, vI y1), (0, vR (16, 0, 0)), (1, vI c1), (2, vI c2), (4, vI v4)]) C dX3_cellsRound_48 3 rfl (by decide) rfl ?_
        obtain ⟨x4, ex4, hF⟩ := nam_e hF
        refine r_iinc (v := x4) (ls2 := [(4, vI x4), (3, vI y1), (0, vR (16, 0, 0)), (1, vI c1), (2, vI c2)]) C 4 dX3_cellsRound_49 rfl ex4.symm (by decide) rfl ?_
        refine r_goto C 15 dX3_cellsRound_52 (by decide) ?_
        refine r_drop (ls2 := [(0, vR (16, 0, 0)), (1, vI c1), (2, vI c2), (3, vI y1), (4, vI x4)]) [2, 3, 4, 1, 0] rfl ?_
        exact ih _ _ _ hF
      refine r_if_ne C 43 dX3_cellsRound_22 (by decide)  (fun h7 => ?_) (fun h7 => ?_)
      · have hF := if_f h7 hF
        refine r_iconst (v := (1 : Int32)) C dX3_cellsRound_43 rfl ?_
        refine r_goto C 48 dX3_cellsRound_44 (by decide) ?_
        refine r_drop (ls2 := [(0, vR (16, 0, 0)), (1, vI c1), (2, vI c2), (4, vI v4)]) [0, 1, 2, 4] rfl ?_
        exact hk2 _ _ hF
      · have hF := if_t h7 hF
        refine r_aload_n C 0 0 dX3_cellsRound_25 rfl rfl ?_
        refine r_getR (kf := 1) (d2 := (17, 0, 0)) C dX3_cellsRound_26 rfl rfl f_X3 (by decide) t_2_10 rfl rfl ?_
        refine r_iload_n C 2 2 dX3_cellsRound_29 rfl rfl ?_
        refine r_iconst (v := (4 : Int32)) C dX3_cellsRound_30 rfl ?_
        refine r_imul C dX3_cellsRound_31 ?_
        refine r_iload C 4 dX3_cellsRound_32 rfl ?_
        refine r_iadd C dX3_cellsRound_34 ?_
        obtain ⟨h5, hF⟩ := ck_e hF
        refine r_iaload C (((c2 * (4 : Int32)) + v4).toNatClampNeg) dX3_cellsRound_35 rfl h5 rfl ?_
        refine r_aload_n C 0 0 dX3_cellsRound_36 rfl rfl ?_
        refine r_getI (kf := 2) C dX3_cellsRound_37 rfl rfl f_X3 (by decide) t_2_11 rfl ?_
        refine r_icmp_lt C 47 dX3_cellsRound_40 (by decide)  (fun h6 => ?_) (fun h6 => ?_)
        · have hF := if_t h6 hF
          refine r_iconst (v := (0 : Int32)) C dX3_cellsRound_47 rfl ?_
          refine r_drop (ls2 := [(0, vR (16, 0, 0)), (1, vI c1), (2, vI c2), (4, vI v4)]) [0, 1, 2, 4] rfl ?_
          exact hk2 _ _ hF
        · have hF := if_f h6 hF
          refine r_iconst (v := (1 : Int32)) C dX3_cellsRound_43 rfl ?_
          refine r_goto C 48 dX3_cellsRound_44 (by decide) ?_
          refine r_drop (ls2 := [(0, vR (16, 0, 0)), (1, vI c1), (2, vI c2), (4, vI v4)]) [0, 1, 2, 4] rfl ?_
          exact hk2 _ _ hF
set_option maxRecDepth 20000 in
set_option maxHeartbeats 4000000 in
theorem l_X3_cellsRound_4 {G : Gx} {p : Program} {l : Launch} {e : Env} {s : State} {m : MethodId} {args : Array Value} {below : List Frame} {meth : Method} {c : Code} (C : Cx G p s m args meth c (some .int) 5 RX3 cX3_cellsRound)  {σ' : St} {r : Int32} : ∀ (n : Nat) (v1 : Int32) (v2 : Int32) (τ : St), L_X3_cellsRound_4  n v1 v2 τ = some (r, σ') → Rt G p l e (lvl 0) s m args below meth c 0 0 (MQ below (va_Qi (fun a b => a = r ∧ b = σ') (Wd G) (AG G)) args s 0 0 (AG G)) 5 4 [(0, vR (16, 0, 0)), (1, vI v1), (2, vI v2)] [] τ := by
  intro n
  induction n with
  | zero => intro v1 v2 τ hF; cases hF
  | succ n ih =>
    intro v1 v2 τ hF
    unfold L_X3_cellsRound_4 at hF
    refine r_iload_n C 2 2 dX3_cellsRound_4 rfl rfl ?_
    refine r_bipush (v := (96 : Int32)) C dX3_cellsRound_5 rfl ?_
    refine r_icmp_ge C 73 dX3_cellsRound_7 (by decide)  (fun h17 => ?_) (fun h17 => ?_)
    · have hF := if_t h17 hF
      refine r_iload_n C 1 1 dX3_cellsRound_73 rfl rfl ?_
      exact r_ireturn C dX3_cellsRound_74 (rt_e hF)
    · have hF := if_f h17 hF
      refine r_iconst (v := (0 : Int32)) C dX3_cellsRound_10 rfl ?_
      refine r_istore_n (ls2 := [(3, vI (0 : Int32)), (0, vR (16, 0, 0)), (1, vI v1), (2, vI v2)]) C dX3_cellsRound_11 3 rfl (by decide) rfl ?_
      refine r_iconst (v := (0 : Int32)) C dX3_cellsRound_12 rfl ?_
      refine r_istore (ls2 := [(4, vI (0 : Int32)), (3, vI (0 : Int32)), (0, vR (16, 0, 0)), (1, vI v1), (2, vI v2)]) C dX3_cellsRound_13 (by decide) rfl ?_
      refine r_drop (ls2 := [(0, vR (16, 0, 0)), (1, vI v1), (2, vI v2), (3, vI (0 : Int32)), (4, vI (0 : Int32))]) [2, 3, 4, 1, 0] rfl ?_
      refine l_X3_cellsRound_15 C v1 v2 _ ?_ _ _ _ _ hF
      · intro y10 σ9 hF
        refine r_iload_n C 1 1 dX3_cellsRound_55 rfl rfl ?_
        refine r_iload_n C 3 3 dX3_cellsRound_56 rfl rfl ?_
        obtain ⟨k12, ek12, hF⟩ := nam_e hF
        have hk12 : ∀ (y11 : Int32) (σ13 : St), k12 y11 σ13 = some (r, σ') → Rt G p l e (lvl 0) s m args below meth c 0 0 (MQ below (va_Qi (fun a b => a = r ∧ b = σ') (Wd G) (AG G)) args s 0 0 (AG G)) 5 65 [(0, vR (16, 0, 0)), (2, vI v2)] [vI y11, vI v1] σ13 := by
          intro y11 σ13 hF
          subst ek12
          refine r_iadd C dX3_cellsRound_65 ?_
          obtain ⟨x14, ex14, hF⟩ := nam_e hF
          refine r_topI ex14 ?_
          refine r_istore_n (ls2 := [(1, vI x14), (0, vR (16, 0, 0)), (2, vI v2)]) C dX3_cellsRound_66 1 rfl (by decide) rfl ?_
          obtain ⟨x15, ex15, hF⟩ := nam_e hF
          refine r_iinc (v := x15) (ls2 := [(2, vI x15), (1, vI x14), (0, vR (16, 0, 0))]) C 2 dX3_cellsRound_67 rfl ex15.symm (by decide) rfl ?_
          refine r_goto C 4 dX3_cellsRound_70 (by decide) ?_
          refine r_drop (ls2 := [(0, vR (16, 0, 0)), (1, vI x14), (2, vI x15)]) [2, 1, 0] rfl ?_
          exact ih _ _ _ hF
        refine r_if_eq C 64 dX3_cellsRound_57 (by decide)  (fun h16 => ?_) (fun h16 => ?_)
        · have hF := if_t h16 hF
          refine r_iconst (v := (0 : Int32)) C dX3_cellsRound_64 rfl ?_
          refine r_drop (ls2 := [(0, vR (16, 0, 0)), (2, vI v2)]) [0, 2] rfl ?_
          exact hk12 _ _ hF
        · have hF := if_f h16 hF
          refine r_iconst (v := (1 : Int32)) C dX3_cellsRound_60 rfl ?_
          refine r_goto C 65 dX3_cellsRound_61 (by decide) ?_
          refine r_drop (ls2 := [(0, vR (16, 0, 0)), (2, vI v2)]) [0, 2] rfl ?_
          exact hk12 _ _ hF
set_option maxRecDepth 20000 in
set_option maxHeartbeats 4000000 in
theorem s_X3_cellsRound (G : Gx) (l : Launch)  {σ σ' : St} {r : Int32} (hF : F_X3_cellsRound  σ = some (r, σ')) : Sp G l yX3_cellsRound cX3_cellsRound 5 (some .int) (lvl 0) [vR (16, 0, 0)] σ (va_Qi (fun a b => a = r ∧ b = σ') (Wd G) (AG G)) := by
  refine Sp_of (own := RX3) (by decide) rfl (Nat.le_of_ble_eq_true rfl) ?_
  intro p e s m args below meth c C
  show Rt G p l e (lvl 0) s m args below meth c 0 0 (MQ below (va_Qi (fun a b => a = r ∧ b = σ') (Wd G) (AG G)) args s 0 0 (AG G)) 5 0 [(0, vR (16, 0, 0))] [] σ
  unfold F_X3_cellsRound at hF
  refine r_iconst (v := (0 : Int32)) C dX3_cellsRound_0 rfl ?_
  refine r_istore_n (ls2 := [(1, vI (0 : Int32)), (0, vR (16, 0, 0))]) C dX3_cellsRound_1 1 rfl (by decide) rfl ?_
  refine r_iconst (v := (0 : Int32)) C dX3_cellsRound_2 rfl ?_
  refine r_istore_n (ls2 := [(2, vI (0 : Int32)), (1, vI (0 : Int32)), (0, vR (16, 0, 0))]) C dX3_cellsRound_3 2 rfl (by decide) rfl ?_
  refine r_drop (ls2 := [(0, vR (16, 0, 0)), (1, vI (0 : Int32)), (2, vI (0 : Int32))]) [2, 1, 0] rfl ?_
  refine l_X3_cellsRound_4 C   _ _ _ _ hF
