def F_X11_at (a1 : Int32) (σ : St) : Option (Int32 × St) :=
  bd (F_X11_isCell a1 σ) fun r2 σ1 => (if r2 = 0 then some ((-1 : Int32), σ1) else bd (F_X11_inCell a1 (-4 : Int32) σ1) fun r5 σ4 => some (r5, σ4))
set_option maxRecDepth 20000 in
set_option maxHeartbeats 4000000 in
theorem s_X11_at (G : Gx) (l : Launch) {a1 : Int32} {σ σ' : St} {r : Int32} (hF : F_X11_at a1 σ = some (r, σ')) : Sp G l yX11_at cX11_at 2 (some .int) (lvl 2) [vR (40, 0, 0), vI a1] σ (va_Qi (fun a b => a = r ∧ b = σ') (Wd G) (AG G)) := by
  refine Sp_of (own := RX11) (by decide) rfl (Nat.le_of_ble_eq_true rfl) ?_
  intro p e s m args below meth c C
  show Rt G p l e (lvl 2) s m args below meth c 0 0 (MQ below (va_Qi (fun a b => a = r ∧ b = σ') (Wd G) (AG G)) args s 0 0 (AG G)) 2 0 [(0, vR (40, 0, 0)), (1, vI a1)] [] σ
  unfold F_X11_at at hF
  refine r_iload_n C 1 1 dX11_at_0 rfl rfl ?_
  obtain ⟨r2, σ1, e3, hF⟩ := bd_e hF
  refine r_callS_i (as := [vI a1]) (st := []) C dX11_at_1 (s_X11_isCell G l e3) t_5_223 t_5_224 t_1_14 t_5_225 m_X11_isCell ⟨Nat.le_of_ble_eq_true rfl, Nat.le_of_ble_eq_true rfl⟩ ⟨rfl, rfl⟩ ⟨Nat.zero_le _, Nat.zero_le _⟩ rfl (Nat.le_of_ble_eq_true rfl) ?_
  refine r_if_eq C 17 dX11_at_4 (by decide)  (fun h7 => ?_) (fun h7 => ?_)
  · have hF := if_t h7 hF
    refine r_iconst (v := (-1 : Int32)) C dX11_at_17 rfl ?_
    exact r_ireturn C dX11_at_18 (rt_e hF)
  · have hF := if_f h7 hF
    refine r_aload_n C 0 0 dX11_at_7 rfl rfl ?_
    refine r_iload_n C 1 1 dX11_at_8 rfl rfl ?_
    refine r_bipush (v := (-4 : Int32)) C dX11_at_9 rfl ?_
    obtain ⟨r5, σ4, e6, hF⟩ := bd_e hF
    refine r_callV_i (as := [vI a1, vI (-4 : Int32)]) (st := []) C dX11_at_11 (s_X11_inCell G l e6) rfl rfl rfl t_5_235 t_5_237 t_s_33 t_1_14 t_5_238 m_X11_inCell ⟨Nat.le_of_ble_eq_true rfl, Nat.le_of_ble_eq_true rfl⟩ ⟨rfl, rfl⟩ ⟨Nat.zero_le _, Nat.zero_le _⟩ rfl (Nat.le_of_ble_eq_true rfl) ?_
    refine r_goto C 18 dX11_at_14 (by decide) ?_
    exact r_ireturn C dX11_at_18 (rt_e hF)
def L_X11_now_4 (c1 : Int32) : Nat → Int32 → Int32 → St → (Int32 → St → Option (Int32 × St)) → Option (Int32 × St)
  | 0, _, _, _, _ => none
  | n + 1, v2, v3, τ, kx46 =>
  ck (inb (176 : Int32) 576) ((if (τ.1 (41, 0, 0) 176) ≤ v3 then kx46 v2 τ else bd (F_X11_isThere v3 τ) fun r3 σ2 => nam (fun (y5 : Int32) (σ7 : St) => nam (v2 + y5) fun x8 => nam (v3 + (1 : Int32)) fun x9 => L_X11_now_4 c1 n x8 x9 σ7 kx46) fun k6 => (if r3 = 0 then k6 (0 : Int32) σ2 else ck (inb ((108 : Int32) + v3) 576) (k6 (σ2.1 (41, 0, 0) (((108 : Int32) + v3).toNatClampNeg)) σ2))))
def F_X11_now (a1 : Int32) (σ : St) : Option (Int32 × St) :=
  L_X11_now_4 a1 FU (0 : Int32) (0 : Int32) σ (fun (y14 : Int32) (σ13 : St) => (if a1 = (0 : Int32) then ck (inb (168 : Int32) 576) (some (σ13.1 (41, 0, 0) 168, σ13)) else (if a1 = (1 : Int32) then ck (inb (169 : Int32) 576) (some (σ13.1 (41, 0, 0) 169, σ13)) else (if a1 = (2 : Int32) then ck (inb (170 : Int32) 576) (some (σ13.1 (41, 0, 0) 170, σ13)) else (if a1 = (3 : Int32) then some (y14, σ13) else (if a1 = (4 : Int32) then ck (inb (171 : Int32) 576) (some (σ13.1 (41, 0, 0) 171, σ13)) else (if a1 = (5 : Int32) then ck (inb (172 : Int32) 576) (some (σ13.1 (41, 0, 0) 172, σ13)) else (if a1 = (6 : Int32) then ck (inb (173 : Int32) 576) (some (σ13.1 (41, 0, 0) 173, σ13)) else (if a1 = (7 : Int32) then ck (inb (174 : Int32) 576) (some (σ13.1 (41, 0, 0) 174, σ13)) else some ((-1 : Int32), σ13))))))))))
set_option maxRecDepth 20000 in
set_option maxHeartbeats 4000000 in
theorem l_X11_now_4 {G : Gx} {p : Program} {l : Launch} {e : Env} {s : State} {m : MethodId} {args : Array Value} {below : List Frame} {meth : Method} {c : Code} (C : Cx G p s m args meth c (some .int) 4 RX11 cX11_now) (c1 : Int32) {σ' : St} {r : Int32} (kx46 : Int32 → St → Option (Int32 × St)) (hkx46 : ∀ (w2 : Int32) (τ : St), kx46 w2 τ = some (r, σ') → Rt G p l e (lvl 1) s m args below meth c 0 0 (MQ below (va_Qi (fun a b => a = r ∧ b = σ') (Wd G) (AG G)) args s 0 0 (AG G)) 4 46 [(0, vR (40, 0, 0)), (1, vI c1), (2, vI w2)] [] τ) : ∀ (n : Nat) (v2 : Int32) (v3 : Int32) (τ : St), L_X11_now_4 c1 n v2 v3 τ kx46 = some (r, σ') → Rt G p l e (lvl 1) s m args below meth c 0 0 (MQ below (va_Qi (fun a b => a = r ∧ b = σ') (Wd G) (AG G)) args s 0 0 (AG G)) 4 4 [(0, vR (40, 0, 0)), (1, vI c1), (2, vI v2), (3, vI v3)] [] τ := by
  intro n
  induction n with
  | zero => intro v2 v3 τ hF; cases hF
  | succ n ih =>
    intro v2 v3 τ hF
    unfold L_X11_now_4 at hF
    refine r_iload_n C 3 3 dX11_now_4 rfl rfl ?_
    refine r_aload_n C 0 0 dX11_now_5 rfl rfl ?_
    refine r_getR (kf := 0) (d2 := (41, 0, 0)) C dX11_now_6 rfl rfl f_X11 (by decide) t_5_56 rfl rfl ?_
    refine r_sipush (v := (176 : Int32)) C dX11_now_9 rfl ?_
    obtain ⟨h1, hF⟩ := ck_e hF
    refine r_iaload C 176 dX11_now_12 rfl h1 rfl ?_
    refine r_icmp_ge C 46 dX11_now_13 (by decide)  (fun h12 => ?_) (fun h12 => ?_)
    · have hF := if_t h12 hF
      refine r_drop (ls2 := [(0, vR (40, 0, 0)), (1, vI c1), (2, vI v2)]) [0, 1, 2] rfl ?_
      exact hkx46 _ _ hF
    · have hF := if_f h12 hF
      refine r_iload_n C 2 2 dX11_now_16 rfl rfl ?_
      refine r_aload_n C 0 0 dX11_now_17 rfl rfl ?_
      refine r_iload_n C 3 3 dX11_now_18 rfl rfl ?_
      obtain ⟨r3, σ2, e4, hF⟩ := bd_e hF
      refine r_callV_i (as := [vI v3]) (st := [vI v2]) C dX11_now_19 (s_X11_isThere G l e4) rfl rfl rfl t_5_239 t_6_1 t_s_34 t_1_14 t_6_2 m_X11_isThere ⟨Nat.le_of_ble_eq_true rfl, Nat.le_of_ble_eq_true rfl⟩ ⟨rfl, rfl⟩ ⟨Nat.zero_le _, Nat.zero_le _⟩ rfl (Nat.le_of_ble_eq_true rfl) ?_
      obtain ⟨k6, ek6, hF⟩ := nam_e hF
      have hk6 : ∀ (y5 : Int32) (σ7 : St), k6 y5 σ7 = some (r, σ') → Rt G p l e (lvl 1) s m args below meth c 0 0 (MQ below (va_Qi (fun a b => a = r ∧ b = σ') (Wd G) (AG G)) args s 0 0 (AG G)) 4 38 [(0, vR (40, 0, 0)), (1, vI c1), (3, vI v3)] [vI y5, vI v2] σ7 := by
        intro y5 σ7 hF
        subst ek6
        refine r_iadd C dX11_now_38 ?_
        obtain ⟨x8, ex8, hF⟩ := nam_e hF
        refine r_topI ex8 ?_
        refine r_istore_n (ls2 := [(2, vI x8), (0, vR (40, 0, 0)), (1, vI c1), (3, vI v3)]) C dX11_now_39 2 rfl (by decide) rfl ?_
        obtain ⟨x9, ex9, hF⟩ := nam_e hF
        refine r_iinc (v := x9) (ls2 := [(3, vI x9), (2, vI x8), (0, vR (40, 0, 0)), (1, vI c1)]) C 3 dX11_now_40 rfl ex9.symm (by decide) rfl ?_
        refine r_goto C 4 dX11_now_43 (by decide) ?_
        refine r_drop (ls2 := [(0, vR (40, 0, 0)), (1, vI c1), (2, vI x8), (3, vI x9)]) [2, 3, 1, 0] rfl ?_
        exact ih _ _ _ hF
      refine r_if_eq C 37 dX11_now_22 (by decide)  (fun h11 => ?_) (fun h11 => ?_)
      · have hF := if_t h11 hF
        refine r_iconst (v := (0 : Int32)) C dX11_now_37 rfl ?_
        refine r_drop (ls2 := [(0, vR (40, 0, 0)), (1, vI c1), (3, vI v3)]) [0, 1, 3] rfl ?_
        exact hk6 _ _ hF
      · have hF := if_f h11 hF
        refine r_aload_n C 0 0 dX11_now_25 rfl rfl ?_
        refine r_getR (kf := 0) (d2 := (41, 0, 0)) C dX11_now_26 rfl rfl f_X11 (by decide) t_5_56 rfl rfl ?_
        refine r_bipush (v := (108 : Int32)) C dX11_now_29 rfl ?_
        refine r_iload_n C 3 3 dX11_now_31 rfl rfl ?_
        refine r_iadd C dX11_now_32 ?_
        obtain ⟨h10, hF⟩ := ck_e hF
        refine r_iaload C (((108 : Int32) + v3).toNatClampNeg) dX11_now_33 rfl h10 rfl ?_
        refine r_goto C 38 dX11_now_34 (by decide) ?_
        refine r_drop (ls2 := [(0, vR (40, 0, 0)), (1, vI c1), (3, vI v3)]) [0, 1, 3] rfl ?_
        exact hk6 _ _ hF
set_option maxRecDepth 20000 in
set_option maxHeartbeats 4000000 in
theorem s_X11_now (G : Gx) (l : Launch) {a1 : Int32} {σ σ' : St} {r : Int32} (hF : F_X11_now a1 σ = some (r, σ')) : Sp G l yX11_now cX11_now 4 (some .int) (lvl 1) [vR (40, 0, 0), vI a1] σ (va_Qi (fun a b => a = r ∧ b = σ') (Wd G) (AG G)) := by
  refine Sp_of (own := RX11) (by decide) rfl (Nat.le_of_ble_eq_true rfl) ?_
  intro p e s m args below meth c C
  show Rt G p l e (lvl 1) s m args below meth c 0 0 (MQ below (va_Qi (fun a b => a = r ∧ b = σ') (Wd G) (AG G)) args s 0 0 (AG G)) 4 0 [(0, vR (40, 0, 0)), (1, vI a1)] [] σ
  unfold F_X11_now at hF
  refine r_iconst (v := (0 : Int32)) C dX11_now_0 rfl ?_
  refine r_istore_n (ls2 := [(2, vI (0 : Int32)), (0, vR (40, 0, 0)), (1, vI a1)]) C dX11_now_1 2 rfl (by decide) rfl ?_
  refine r_iconst (v := (0 : Int32)) C dX11_now_2 rfl ?_
  refine r_istore_n (ls2 := [(3, vI (0 : Int32)), (2, vI (0 : Int32)), (0, vR (40, 0, 0)), (1, vI a1)]) C dX11_now_3 3 rfl (by decide) rfl ?_
  refine r_drop (ls2 := [(0, vR (40, 0, 0)), (1, vI a1), (2, vI (0 : Int32)), (3, vI (0 : Int32))]) [2, 3, 1, 0] rfl ?_
  refine l_X11_now_4 C a1 _ ?_ _ _ _ _ hF
  · intro y14 σ13 hF
    refine r_iload_n C 1 1 dX11_now_46 rfl rfl ?_
    by_cases h15 : a1 = (0 : Int32)
    · have hF := if_t h15 hF
      refine r_tabIn (off := 45) C 92 dX11_now_47 (by rw [h15]; decide) (by rw [h15]; decide) (by rw [h15]; rfl) (by decide) ?_
      refine r_aload_n C 0 0 dX11_now_92 rfl rfl ?_
      refine r_getR (kf := 0) (d2 := (41, 0, 0)) C dX11_now_93 rfl rfl f_X11 (by decide) t_5_56 rfl rfl ?_
      refine r_sipush (v := (168 : Int32)) C dX11_now_96 rfl ?_
      obtain ⟨h16, hF⟩ := ck_e hF
      refine r_iaload C 168 dX11_now_99 rfl h16 rfl ?_
      exact r_ireturn C dX11_now_100 (rt_e hF)
    have hF := if_f h15 hF
    by_cases h17 : a1 = (1 : Int32)
    · have hF := if_t h17 hF
      refine r_tabIn (off := 54) C 101 dX11_now_47 (by rw [h17]; decide) (by rw [h17]; decide) (by rw [h17]; rfl) (by decide) ?_
      refine r_aload_n C 0 0 dX11_now_101 rfl rfl ?_
      refine r_getR (kf := 0) (d2 := (41, 0, 0)) C dX11_now_102 rfl rfl f_X11 (by decide) t_5_56 rfl rfl ?_
      refine r_sipush (v := (169 : Int32)) C dX11_now_105 rfl ?_
      obtain ⟨h18, hF⟩ := ck_e hF
      refine r_iaload C 169 dX11_now_108 rfl h18 rfl ?_
      exact r_ireturn C dX11_now_109 (rt_e hF)
    have hF := if_f h17 hF
    by_cases h19 : a1 = (2 : Int32)
    · have hF := if_t h19 hF
      refine r_tabIn (off := 63) C 110 dX11_now_47 (by rw [h19]; decide) (by rw [h19]; decide) (by rw [h19]; rfl) (by decide) ?_
      refine r_aload_n C 0 0 dX11_now_110 rfl rfl ?_
      refine r_getR (kf := 0) (d2 := (41, 0, 0)) C dX11_now_111 rfl rfl f_X11 (by decide) t_5_56 rfl rfl ?_
      refine r_sipush (v := (170 : Int32)) C dX11_now_114 rfl ?_
      obtain ⟨h20, hF⟩ := ck_e hF
      refine r_iaload C 170 dX11_now_117 rfl h20 rfl ?_
      exact r_ireturn C dX11_now_118 (rt_e hF)
    have hF := if_f h19 hF
    by_cases h21 : a1 = (3 : Int32)
    · have hF := if_t h21 hF
      refine r_tabIn (off := 72) C 119 dX11_now_47 (by rw [h21]; decide) (by rw [h21]; decide) (by rw [h21]; rfl) (by decide) ?_
      refine r_iload_n C 2 2 dX11_now_119 rfl rfl ?_
      exact r_ireturn C dX11_now_120 (rt_e hF)
    have hF := if_f h21 hF
    by_cases h22 : a1 = (4 : Int32)
    · have hF := if_t h22 hF
      refine r_tabIn (off := 74) C 121 dX11_now_47 (by rw [h22]; decide) (by rw [h22]; decide) (by rw [h22]; rfl) (by decide) ?_
      refine r_aload_n C 0 0 dX11_now_121 rfl rfl ?_
      refine r_getR (kf := 0) (d2 := (41, 0, 0)) C dX11_now_122 rfl rfl f_X11 (by decide) t_5_56 rfl rfl ?_
      refine r_sipush (v := (171 : Int32)) C dX11_now_125 rfl ?_
      obtain ⟨h23, hF⟩ := ck_e hF
      refine r_iaload C 171 dX11_now_128 rfl h23 rfl ?_
      exact r_ireturn C dX11_now_129 (rt_e hF)
    have hF := if_f h22 hF
    by_cases h24 : a1 = (5 : Int32)
    · have hF := if_t h24 hF
      refine r_tabIn (off := 83) C 130 dX11_now_47 (by rw [h24]; decide) (by rw [h24]; decide) (by rw [h24]; rfl) (by decide) ?_
      refine r_aload_n C 0 0 dX11_now_130 rfl rfl ?_
      refine r_getR (kf := 0) (d2 := (41, 0, 0)) C dX11_now_131 rfl rfl f_X11 (by decide) t_5_56 rfl rfl ?_
      refine r_sipush (v := (172 : Int32)) C dX11_now_134 rfl ?_
      obtain ⟨h25, hF⟩ := ck_e hF
      refine r_iaload C 172 dX11_now_137 rfl h25 rfl ?_
      exact r_ireturn C dX11_now_138 (rt_e hF)
    have hF := if_f h24 hF
    by_cases h26 : a1 = (6 : Int32)
    · have hF := if_t h26 hF
      refine r_tabIn (off := 92) C 139 dX11_now_47 (by rw [h26]; decide) (by rw [h26]; decide) (by rw [h26]; rfl) (by decide) ?_
      refine r_aload_n C 0 0 dX11_now_139 rfl rfl ?_
      refine r_getR (kf := 0) (d2 := (41, 0, 0)) C dX11_now_140 rfl rfl f_X11 (by decide) t_5_56 rfl rfl ?_
      refine r_sipush (v := (173 : Int32)) C dX11_now_143 rfl ?_
      obtain ⟨h27, hF⟩ := ck_e hF
      refine r_iaload C 173 dX11_now_146 rfl h27 rfl ?_
      exact r_ireturn C dX11_now_147 (rt_e hF)
    have hF := if_f h26 hF
    by_cases h28 : a1 = (7 : Int32)
    · have hF := if_t h28 hF
      refine r_tabIn (off := 101) C 148 dX11_now_47 (by rw [h28]; decide) (by rw [h28]; decide) (by rw [h28]; rfl) (by decide) ?_
      refine r_aload_n C 0 0 dX11_now_148 rfl rfl ?_
      refine r_getR (kf := 0) (d2 := (41, 0, 0)) C dX11_now_149 rfl rfl f_X11 (by decide) t_5_56 rfl rfl ?_
      refine r_sipush (v := (174 : Int32)) C dX11_now_152 rfl ?_
      obtain ⟨h29, hF⟩ := ck_e hF
      refine r_iaload C 174 dX11_now_155 rfl h29 rfl ?_
      exact r_ireturn C dX11_now_156 (rt_e hF)
    have hF := if_f h28 hF
    refine r_tabOut C 157 dX11_now_47 (by have u0 := lv_neT h15 (a := 0) rfl; have u1 := lv_neT h17 (a := 1) rfl; have u2 := lv_neT h19 (a := 2) rfl; have u3 := lv_neT h21 (a := 3) rfl; have u4 := lv_neT h22 (a := 4) rfl; have u5 := lv_neT h24 (a := 5) rfl; have u6 := lv_neT h26 (a := 6) rfl; have u7 := lv_neT h28 (a := 7) rfl; omega) (by decide) ?_
    refine r_iconst (v := (-1 : Int32)) C dX11_now_157 rfl ?_
    exact r_ireturn C dX11_now_158 (rt_e hF)
def F_X11_points (a1 : Int32) (σ : St) : Option (Int32 × St) :=
  ck (inb (176 : Int32) 576) (bd (F_X11_in (a1.toInt64) (0 : Int64) (((σ.1 (41, 0, 0) 176) - (1 : Int32)).toInt64) σ) fun r3 σ2 => (if r3 = 0 then some ((-1 : Int32), σ2) else bd (F_X11_isThere a1 σ2) fun r6 σ5 => (if r6 = 0 then some ((-4 : Int32), σ5) else bd (F_X11_touches a1 σ5) fun r9 σ8 => (if r9 = 0 then ck (inb ((108 : Int32) + a1) 576) (ck (inb (5 : Int32) 9) ((if (σ8.1 (41, 0, 0) (((108 : Int32) + a1).toNatClampNeg)) < (σ8.1 (43, 0, 0) 5) then ck (inb ((108 : Int32) + a1) 576) (ck (decide (¬ (10 : Int32) = 0)) (some ((3 : Int32) + ((2 : Int32) * ((σ8.1 (41, 0, 0) (((108 : Int32) + a1).toNatClampNeg)) / (10 : Int32))), σ8))) else some ((0 : Int32), σ8)))) else some ((0 : Int32), σ8)))))
set_option maxRecDepth 20000 in
set_option maxHeartbeats 4000000 in
theorem s_X11_points (G : Gx) (l : Launch) {a1 : Int32} {σ σ' : St} {r : Int32} (hF : F_X11_points a1 σ = some (r, σ')) : Sp G l yX11_points cX11_points 2 (some .int) (lvl 1) [vR (40, 0, 0), vI a1] σ (va_Qi (fun a b => a = r ∧ b = σ') (Wd G) (AG G)) := by
  refine Sp_of (own := RX11) (by decide) rfl (Nat.le_of_ble_eq_true rfl) ?_
  intro p e s m args below meth c C
  show Rt G p l e (lvl 1) s m args below meth c 0 0 (MQ below (va_Qi (fun a b => a = r ∧ b = σ') (Wd G) (AG G)) args s 0 0 (AG G)) 2 0 [(0, vR (40, 0, 0)), (1, vI a1)] [] σ
  unfold F_X11_points at hF
  refine r_iload_n C 1 1 dX11_points_0 rfl rfl ?_
  refine r_i2l C dX11_points_1 ?_
  refine r_lconst (v := (0 : Int64)) C dX11_points_2 rfl ?_
  refine r_aload_n C 0 0 dX11_points_3 rfl rfl ?_
  refine r_getR (kf := 0) (d2 := (41, 0, 0)) C dX11_points_4 rfl rfl f_X11 (by decide) t_5_56 rfl rfl ?_
  refine r_sipush (v := (176 : Int32)) C dX11_points_7 rfl ?_
  obtain ⟨h1, hF⟩ := ck_e hF
  refine r_iaload C 176 dX11_points_10 rfl h1 rfl ?_
  refine r_iconst (v := (1 : Int32)) C dX11_points_11 rfl ?_
  refine r_isub C dX11_points_12 ?_
  refine r_i2l C dX11_points_13 ?_
  obtain ⟨r3, σ2, e4, hF⟩ := bd_e hF
  refine r_callS_i (as := [vL (a1.toInt64), vL (0 : Int64), vL (((σ.1 (41, 0, 0) 176) - (1 : Int32)).toInt64)]) (st := []) C dX11_points_14 (s_X11_in G l e4) t_5_153 t_5_154 t_1_14 t_5_155 m_X11_in ⟨Nat.le_of_ble_eq_true rfl, Nat.le_of_ble_eq_true rfl⟩ ⟨rfl, rfl⟩ ⟨Nat.zero_le _, Nat.zero_le _⟩ rfl (Nat.le_of_ble_eq_true rfl) ?_
  refine r_if_ne C 22 dX11_points_17 (by decide)  (fun h18 => ?_) (fun h18 => ?_)
  · have hF := if_f h18 hF
    refine r_aload_n C 0 0 dX11_points_22 rfl rfl ?_
    refine r_iload_n C 1 1 dX11_points_23 rfl rfl ?_
    obtain ⟨r6, σ5, e7, hF⟩ := bd_e hF
    refine r_callV_i (as := [vI a1]) (st := []) C dX11_points_24 (s_X11_isThere G l e7) rfl rfl rfl t_5_239 t_6_1 t_s_34 t_1_14 t_6_2 m_X11_isThere ⟨Nat.le_of_ble_eq_true rfl, Nat.le_of_ble_eq_true rfl⟩ ⟨rfl, rfl⟩ ⟨Nat.zero_le _, Nat.zero_le _⟩ rfl (Nat.le_of_ble_eq_true rfl) ?_
    refine r_if_ne C 33 dX11_points_27 (by decide)  (fun h17 => ?_) (fun h17 => ?_)
    · have hF := if_f h17 hF
      refine r_aload_n C 0 0 dX11_points_33 rfl rfl ?_
      refine r_iload_n C 1 1 dX11_points_34 rfl rfl ?_
      obtain ⟨r9, σ8, e10, hF⟩ := bd_e hF
      refine r_callV_i (as := [vI a1]) (st := []) C dX11_points_35 (s_X11_touches G l e10) rfl rfl rfl t_6_26 t_6_28 t_s_36 t_1_14 t_6_29 m_X11_touches ⟨Nat.le_of_ble_eq_true rfl, Nat.le_of_ble_eq_true rfl⟩ ⟨rfl, rfl⟩ ⟨Nat.zero_le _, Nat.zero_le _⟩ rfl (Nat.le_of_ble_eq_true rfl) ?_
      refine r_if_ne C 59 dX11_points_38 (by decide)  (fun h16 => ?_) (fun h16 => ?_)
      · have hF := if_f h16 hF
        refine r_iconst (v := (0 : Int32)) C dX11_points_59 rfl ?_
        refine r_goto C 79 dX11_points_60 (by decide) ?_
        exact r_ireturn C dX11_points_79 (rt_e hF)
      · have hF := if_t h16 hF
        refine r_aload_n C 0 0 dX11_points_41 rfl rfl ?_
        refine r_getR (kf := 0) (d2 := (41, 0, 0)) C dX11_points_42 rfl rfl f_X11 (by decide) t_5_56 rfl rfl ?_
        refine r_bipush (v := (108 : Int32)) C dX11_points_45 rfl ?_
        refine r_iload_n C 1 1 dX11_points_47 rfl rfl ?_
        refine r_iadd C dX11_points_48 ?_
        obtain ⟨h11, hF⟩ := ck_e hF
        refine r_iaload C (((108 : Int32) + a1).toNatClampNeg) dX11_points_49 rfl h11 rfl ?_
        refine r_aload_n C 0 0 dX11_points_50 rfl rfl ?_
        refine r_getR (kf := 2) (d2 := (43, 0, 0)) C dX11_points_51 rfl rfl f_X11 (by decide) t_5_58 rfl rfl ?_
        refine r_iconst (v := (5 : Int32)) C dX11_points_54 rfl ?_
        obtain ⟨h12, hF⟩ := ck_e hF
        refine r_iaload C 5 dX11_points_55 rfl h12 rfl ?_
        refine r_icmp_lt C 63 dX11_points_56 (by decide)  (fun h15 => ?_) (fun h15 => ?_)
        · have hF := if_t h15 hF
          refine r_iconst (v := (3 : Int32)) C dX11_points_63 rfl ?_
          refine r_iconst (v := (2 : Int32)) C dX11_points_64 rfl ?_
          refine r_aload_n C 0 0 dX11_points_65 rfl rfl ?_
          refine r_getR (kf := 0) (d2 := (41, 0, 0)) C dX11_points_66 rfl rfl f_X11 (by decide) t_5_56 rfl rfl ?_
          refine r_bipush (v := (108 : Int32)) C dX11_points_69 rfl ?_
          refine r_iload_n C 1 1 dX11_points_71 rfl rfl ?_
          refine r_iadd C dX11_points_72 ?_
          obtain ⟨h13, hF⟩ := ck_e hF
          refine r_iaload C (((108 : Int32) + a1).toNatClampNeg) dX11_points_73 rfl h13 rfl ?_
          refine r_bipush (v := (10 : Int32)) C dX11_points_74 rfl ?_
          obtain ⟨h14, hF⟩ := ck_e hF
          refine r_idiv C dX11_points_76 (nz h14) ?_
          refine r_imul C dX11_points_77 ?_
          refine r_iadd C dX11_points_78 ?_
          exact r_ireturn C dX11_points_79 (rt_e hF)
        · have hF := if_f h15 hF
          refine r_iconst (v := (0 : Int32)) C dX11_points_59 rfl ?_
          refine r_goto C 79 dX11_points_60 (by decide) ?_
          exact r_ireturn C dX11_points_79 (rt_e hF)
    · have hF := if_t h17 hF
      refine r_bipush (v := (-4 : Int32)) C dX11_points_30 rfl ?_
      exact r_ireturn C dX11_points_32 (rt_e hF)
  · have hF := if_t h18 hF
    refine r_iconst (v := (-1 : Int32)) C dX11_points_20 rfl ?_
    exact r_ireturn C dX11_points_21 (rt_e hF)
def L_X11_copies_2 (c1 : Int32) (c2 : Int32) : Nat → Int32 → St → Option (Unit × St)
  | 0, _, _ => none
  | n + 1, v3, τ =>
  (if (192 : Int32) ≤ v3 then some ((), τ) else ck (inb (c2 + v3) 576) (ck (inb (c1 + v3) 576) (nam (uI τ (41, 0, 0) ((c1 + v3).toNatClampNeg) (τ.1 (41, 0, 0) ((c2 + v3).toNatClampNeg))) fun σ3 => nam (v3 + (1 : Int32)) fun x4 => L_X11_copies_2 c1 c2 n x4 σ3)))
def F_X11_copies (a1 : Int32) (a2 : Int32) (σ : St) : Option (Unit × St) :=
  L_X11_copies_2 a1 a2 FU (0 : Int32) σ 
set_option maxRecDepth 20000 in
set_option maxHeartbeats 4000000 in
theorem l_X11_copies_2 {G : Gx} {p : Program} {l : Launch} {e : Env} {s : State} {m : MethodId} {args : Array Value} {below : List Frame} {meth : Method} {c : Code} (C : Cx G p s m args meth c none 4 RX11 cX11_copies) (c1 : Int32) (c2 : Int32) {σ' : St}  : ∀ (n : Nat) (v3 : Int32) (τ : St), L_X11_copies_2 c1 c2 n v3 τ = some ((), σ') → Rt G p l e (lvl 0) s m args below meth c 0 0 (MQ below (va_Qv (fun b => b = σ') (Wd G) (AG G)) args s 0 0 (AG G)) 4 2 [(0, vR (40, 0, 0)), (1, vI c1), (2, vI c2), (3, vI v3)] [] τ := by
  intro n
  induction n with
  | zero => intro v3 τ hF; cases hF
  | succ n ih =>
    intro v3 τ hF
    unfold L_X11_copies_2 at hF
    refine r_iload_n C 3 3 dX11_copies_2 rfl rfl ?_
    refine r_sipush (v := (192 : Int32)) C dX11_copies_3 rfl ?_
    refine r_icmp_ge C 31 dX11_copies_6 (by decide)  (fun h5 => ?_) (fun h5 => ?_)
    · have hF := if_t h5 hF
      exact r_return C dX11_copies_31 (rv_e hF)
    · have hF := if_f h5 hF
      refine r_aload_n C 0 0 dX11_copies_9 rfl rfl ?_
      refine r_getR (kf := 0) (d2 := (41, 0, 0)) C dX11_copies_10 rfl rfl f_X11 (by decide) t_5_56 rfl rfl ?_
      refine r_iload_n C 1 1 dX11_copies_13 rfl rfl ?_
      refine r_iload_n C 3 3 dX11_copies_14 rfl rfl ?_
      refine r_iadd C dX11_copies_15 ?_
      refine r_aload_n C 0 0 dX11_copies_16 rfl rfl ?_
      refine r_getR (kf := 0) (d2 := (41, 0, 0)) C dX11_copies_17 rfl rfl f_X11 (by decide) t_5_56 rfl rfl ?_
      refine r_iload_n C 2 2 dX11_copies_20 rfl rfl ?_
      refine r_iload_n C 3 3 dX11_copies_21 rfl rfl ?_
      refine r_iadd C dX11_copies_22 ?_
      obtain ⟨h1, hF⟩ := ck_e hF
      refine r_iaload C ((c2 + v3).toNatClampNeg) dX11_copies_23 rfl h1 rfl ?_
      obtain ⟨h2, hF⟩ := ck_e hF
      obtain ⟨σ3, eσ3, hF⟩ := nam_e hF
      refine r_iastore C ((c1 + v3).toNatClampNeg) dX11_copies_24 rfl h2 rfl eσ3 ?_
      obtain ⟨x4, ex4, hF⟩ := nam_e hF
      refine r_iinc (v := x4) (ls2 := [(3, vI x4), (0, vR (40, 0, 0)), (1, vI c1), (2, vI c2)]) C 3 dX11_copies_25 rfl ex4.symm (by decide) rfl ?_
      refine r_goto C 2 dX11_copies_28 (by decide) ?_
      refine r_drop (ls2 := [(0, vR (40, 0, 0)), (1, vI c1), (2, vI c2), (3, vI x4)]) [1, 2, 3, 0] rfl ?_
      exact ih _ _ hF
set_option maxRecDepth 20000 in
set_option maxHeartbeats 4000000 in
theorem s_X11_copies (G : Gx) (l : Launch) {a1 : Int32} {a2 : Int32} {σ σ' : St}  (hF : F_X11_copies a1 a2 σ = some ((), σ')) : Sp G l yX11_copies cX11_copies 4 none (lvl 0) [vR (40, 0, 0), vI a1, vI a2] σ (va_Qv (fun b => b = σ') (Wd G) (AG G)) := by
  refine Sp_of (own := RX11) (by decide) rfl (Nat.le_of_ble_eq_true rfl) ?_
  intro p e s m args below meth c C
  show Rt G p l e (lvl 0) s m args below meth c 0 0 (MQ below (va_Qv (fun b => b = σ') (Wd G) (AG G)) args s 0 0 (AG G)) 4 0 [(0, vR (40, 0, 0)), (1, vI a1), (2, vI a2)] [] σ
  unfold F_X11_copies at hF
  refine r_iconst (v := (0 : Int32)) C dX11_copies_0 rfl ?_
  refine r_istore_n (ls2 := [(3, vI (0 : Int32)), (0, vR (40, 0, 0)), (1, vI a1), (2, vI a2)]) C dX11_copies_1 3 rfl (by decide) rfl ?_
  refine r_drop (ls2 := [(0, vR (40, 0, 0)), (1, vI a1), (2, vI a2), (3, vI (0 : Int32))]) [1, 2, 3, 0] rfl ?_
  refine l_X11_copies_2 C a1 a2  _ _ _ hF
def F_X11_keep (a1 : Int32) (σ : St) : Option (Int32 × St) :=
  bd (F_X11_in (a1.toInt64) (0 : Int64) (1 : Int64) σ) fun r2 σ1 => (if r2 = 0 then some ((-1 : Int32), σ1) else ck (inb a1 2) (bd (F_X11_flag (σ1.1 (42, 0, 0) (a1.toNatClampNeg)) σ1) fun r6 σ5 => ck (inb a1 2) (nam (uI σ5 (42, 0, 0) (a1.toNatClampNeg) (vp_nar .boolean (1 : Int32))) fun σ9 => bd (F_X11_copies ((192 : Int32) * (a1 + (1 : Int32))) (0 : Int32) σ9) fun _ σ10 => some (r6, σ10))))
set_option maxRecDepth 20000 in
set_option maxHeartbeats 4000000 in
theorem s_X11_keep (G : Gx) (l : Launch) {a1 : Int32} {σ σ' : St} {r : Int32} (hF : F_X11_keep a1 σ = some (r, σ')) : Sp G l yX11_keep cX11_keep 3 (some .int) (lvl 1) [vR (40, 0, 0), vI a1] σ (va_Qi (fun a b => a = r ∧ b = σ') (Wd G) (AG G)) := by
  refine Sp_of (own := RX11) (by decide) rfl (Nat.le_of_ble_eq_true rfl) ?_
  intro p e s m args below meth c C
  show Rt G p l e (lvl 1) s m args below meth c 0 0 (MQ below (va_Qi (fun a b => a = r ∧ b = σ') (Wd G) (AG G)) args s 0 0 (AG G)) 3 0 [(0, vR (40, 0, 0)), (1, vI a1)] [] σ
  unfold F_X11_keep at hF
  refine r_iload_n C 1 1 dX11_keep_0 rfl rfl ?_
  refine r_i2l C dX11_keep_1 ?_
  refine r_lconst (v := (0 : Int64)) C dX11_keep_2 rfl ?_
  refine r_lconst (v := (1 : Int64)) C dX11_keep_3 rfl ?_
  obtain ⟨r2, σ1, e3, hF⟩ := bd_e hF
  refine r_callS_i (as := [vL (a1.toInt64), vL (0 : Int64), vL (1 : Int64)]) (st := []) C dX11_keep_4 (s_X11_in G l e3) t_5_153 t_5_154 t_1_14 t_5_155 m_X11_in ⟨Nat.le_of_ble_eq_true rfl, Nat.le_of_ble_eq_true rfl⟩ ⟨rfl, rfl⟩ ⟨Nat.zero_le _, Nat.zero_le _⟩ rfl (Nat.le_of_ble_eq_true rfl) ?_
  refine r_if_ne C 12 dX11_keep_7 (by decide)  (fun h12 => ?_) (fun h12 => ?_)
  · have hF := if_f h12 hF
    refine r_aload_n C 0 0 dX11_keep_12 rfl rfl ?_
    refine r_getR (kf := 1) (d2 := (42, 0, 0)) C dX11_keep_13 rfl rfl f_X11 (by decide) t_5_57 rfl rfl ?_
    refine r_iload_n C 1 1 dX11_keep_16 rfl rfl ?_
    obtain ⟨h4, hF⟩ := ck_e hF
    refine r_zaload C (a1.toNatClampNeg) dX11_keep_17 rfl h4 rfl ?_
    obtain ⟨r6, σ5, e7, hF⟩ := bd_e hF
    refine r_callS_i (as := [vI (σ1.1 (42, 0, 0) (a1.toNatClampNeg))]) (st := []) C dX11_keep_18 (s_X11_flag G l e7) t_5_195 t_5_196 t_1_14 t_5_197 m_X11_flag ⟨Nat.le_of_ble_eq_true rfl, Nat.le_of_ble_eq_true rfl⟩ ⟨rfl, rfl⟩ ⟨Nat.zero_le _, Nat.zero_le _⟩ rfl (Nat.le_of_ble_eq_true rfl) ?_
    refine r_istore_n (ls2 := [(2, vI r6), (0, vR (40, 0, 0)), (1, vI a1)]) C dX11_keep_21 2 rfl (by decide) rfl ?_
    refine r_aload_n C 1 0 dX11_keep_22 rfl rfl ?_
    refine r_getR (kf := 1) (d2 := (42, 0, 0)) C dX11_keep_23 rfl rfl f_X11 (by decide) t_5_57 rfl rfl ?_
    refine r_iload_n C 2 1 dX11_keep_26 rfl rfl ?_
    refine r_iconst (v := (1 : Int32)) C dX11_keep_27 rfl ?_
    obtain ⟨h8, hF⟩ := ck_e hF
    obtain ⟨σ9, eσ9, hF⟩ := nam_e hF
    refine r_zastore C (a1.toNatClampNeg) dX11_keep_28 rfl h8 rfl eσ9 ?_
    refine r_aload_n C 1 0 dX11_keep_29 rfl rfl ?_
    refine r_sipush (v := (192 : Int32)) C dX11_keep_30 rfl ?_
    refine r_iload_n C 2 1 dX11_keep_33 rfl rfl ?_
    refine r_iconst (v := (1 : Int32)) C dX11_keep_34 rfl ?_
    refine r_iadd C dX11_keep_35 ?_
    refine r_imul C dX11_keep_36 ?_
    refine r_iconst (v := (0 : Int32)) C dX11_keep_37 rfl ?_
    obtain ⟨⟨⟩, σ10, e11, hF⟩ := bd_e hF
    refine r_callV_v (as := [vI ((192 : Int32) * (a1 + (1 : Int32))), vI (0 : Int32)]) (st := []) C dX11_keep_38 (s_X11_copies G l e11) rfl rfl rfl t_6_98 t_6_100 t_s_46 t_1_14 t_6_101 m_X11_copies ⟨Nat.le_of_ble_eq_true rfl, Nat.le_of_ble_eq_true rfl⟩ ⟨rfl, rfl⟩ ⟨Nat.zero_le _, Nat.zero_le _⟩ rfl (Nat.le_of_ble_eq_true rfl) ?_
    refine r_iload_n C 0 2 dX11_keep_41 rfl rfl ?_
    exact r_ireturn C dX11_keep_42 (rt_e hF)
  · have hF := if_t h12 hF
    refine r_iconst (v := (-1 : Int32)) C dX11_keep_10 rfl ?_
    exact r_ireturn C dX11_keep_11 (rt_e hF)
def F_X11_back (a1 : Int32) (σ : St) : Option (Int32 × St) :=
  bd (F_X11_in (a1.toInt64) (0 : Int64) (1 : Int64) σ) fun r2 σ1 => (if r2 = 0 then some ((-1 : Int32), σ1) else ck (inb a1 2) ((if (σ1.1 (42, 0, 0) (a1.toNatClampNeg)) = 0 then some ((-2 : Int32), σ1) else bd (F_X11_copies (0 : Int32) ((192 : Int32) * (a1 + (1 : Int32))) σ1) fun _ σ5 => ck (inb (168 : Int32) 576) (some (σ5.1 (41, 0, 0) 168, σ5)))))
set_option maxRecDepth 20000 in
set_option maxHeartbeats 4000000 in
theorem s_X11_back (G : Gx) (l : Launch) {a1 : Int32} {σ σ' : St} {r : Int32} (hF : F_X11_back a1 σ = some (r, σ')) : Sp G l yX11_back cX11_back 2 (some .int) (lvl 1) [vR (40, 0, 0), vI a1] σ (va_Qi (fun a b => a = r ∧ b = σ') (Wd G) (AG G)) := by
  refine Sp_of (own := RX11) (by decide) rfl (Nat.le_of_ble_eq_true rfl) ?_
  intro p e s m args below meth c C
  show Rt G p l e (lvl 1) s m args below meth c 0 0 (MQ below (va_Qi (fun a b => a = r ∧ b = σ') (Wd G) (AG G)) args s 0 0 (AG G)) 2 0 [(0, vR (40, 0, 0)), (1, vI a1)] [] σ
  unfold F_X11_back at hF
  refine r_iload_n C 1 1 dX11_back_0 rfl rfl ?_
  refine r_i2l C dX11_back_1 ?_
  refine r_lconst (v := (0 : Int64)) C dX11_back_2 rfl ?_
  refine r_lconst (v := (1 : Int64)) C dX11_back_3 rfl ?_
  obtain ⟨r2, σ1, e3, hF⟩ := bd_e hF
  refine r_callS_i (as := [vL (a1.toInt64), vL (0 : Int64), vL (1 : Int64)]) (st := []) C dX11_back_4 (s_X11_in G l e3) t_5_153 t_5_154 t_1_14 t_5_155 m_X11_in ⟨Nat.le_of_ble_eq_true rfl, Nat.le_of_ble_eq_true rfl⟩ ⟨rfl, rfl⟩ ⟨Nat.zero_le _, Nat.zero_le _⟩ rfl (Nat.le_of_ble_eq_true rfl) ?_
  refine r_if_ne C 12 dX11_back_7 (by decide)  (fun h9 => ?_) (fun h9 => ?_)
  · have hF := if_f h9 hF
    refine r_aload_n C 0 0 dX11_back_12 rfl rfl ?_
    refine r_getR (kf := 1) (d2 := (42, 0, 0)) C dX11_back_13 rfl rfl f_X11 (by decide) t_5_57 rfl rfl ?_
    refine r_iload_n C 1 1 dX11_back_16 rfl rfl ?_
    obtain ⟨h4, hF⟩ := ck_e hF
    refine r_zaload C (a1.toNatClampNeg) dX11_back_17 rfl h4 rfl ?_
    refine r_if_ne C 24 dX11_back_18 (by decide)  (fun h8 => ?_) (fun h8 => ?_)
    · have hF := if_f h8 hF
      refine r_aload_n C 0 0 dX11_back_24 rfl rfl ?_
      refine r_iconst (v := (0 : Int32)) C dX11_back_25 rfl ?_
      refine r_sipush (v := (192 : Int32)) C dX11_back_26 rfl ?_
      refine r_iload_n C 1 1 dX11_back_29 rfl rfl ?_
      refine r_iconst (v := (1 : Int32)) C dX11_back_30 rfl ?_
      refine r_iadd C dX11_back_31 ?_
      refine r_imul C dX11_back_32 ?_
      obtain ⟨⟨⟩, σ5, e6, hF⟩ := bd_e hF
      refine r_callV_v (as := [vI (0 : Int32), vI ((192 : Int32) * (a1 + (1 : Int32)))]) (st := []) C dX11_back_33 (s_X11_copies G l e6) rfl rfl rfl t_6_98 t_6_100 t_s_46 t_1_14 t_6_101 m_X11_copies ⟨Nat.le_of_ble_eq_true rfl, Nat.le_of_ble_eq_true rfl⟩ ⟨rfl, rfl⟩ ⟨Nat.zero_le _, Nat.zero_le _⟩ rfl (Nat.le_of_ble_eq_true rfl) ?_
      refine r_aload_n C 0 0 dX11_back_36 rfl rfl ?_
      refine r_getR (kf := 0) (d2 := (41, 0, 0)) C dX11_back_37 rfl rfl f_X11 (by decide) t_5_56 rfl rfl ?_
      refine r_sipush (v := (168 : Int32)) C dX11_back_40 rfl ?_
      obtain ⟨h7, hF⟩ := ck_e hF
      refine r_iaload C 168 dX11_back_43 rfl h7 rfl ?_
      exact r_ireturn C dX11_back_44 (rt_e hF)
    · have hF := if_t h8 hF
      refine r_bipush (v := (-2 : Int32)) C dX11_back_21 rfl ?_
      exact r_ireturn C dX11_back_23 (rt_e hF)
  · have hF := if_t h9 hF
    refine r_iconst (v := (-1 : Int32)) C dX11_back_10 rfl ?_
    exact r_ireturn C dX11_back_11 (rt_e hF)
def F_X11_sets (a1 : Int32) (a2 : Int32) (a3 : Int32) (σ : St) : Option (Unit × St) :=
  nam (uI σ (40, 0, 0) 15 a1) fun σ1 => nam (uI σ1 (40, 0, 0) 16 a2) fun σ2 => nam (uI σ2 (40, 0, 0) 17 a3) fun σ3 => nam (uI σ3 (40, 0, 0) 18 (0 : Int32)) fun σ4 => nam (uI σ4 (40, 0, 0) 19 (-4 : Int32)) fun σ5 => some ((), σ5)
set_option maxRecDepth 20000 in
set_option maxHeartbeats 4000000 in
theorem s_X11_sets (G : Gx) (l : Launch) {a1 : Int32} {a2 : Int32} {a3 : Int32} {σ σ' : St}  (hF : F_X11_sets a1 a2 a3 σ = some ((), σ')) : Sp G l yX11_sets cX11_sets 4 none (lvl 0) [vR (40, 0, 0), vI a1, vI a2, vI a3] σ (va_Qv (fun b => b = σ') (Wd G) (AG G)) := by
  refine Sp_of (own := RX11) (by decide) rfl (Nat.le_of_ble_eq_true rfl) ?_
  intro p e s m args below meth c C
  show Rt G p l e (lvl 0) s m args below meth c 0 0 (MQ below (va_Qv (fun b => b = σ') (Wd G) (AG G)) args s 0 0 (AG G)) 4 0 [(0, vR (40, 0, 0)), (1, vI a1), (2, vI a2), (3, vI a3)] [] σ
  unfold F_X11_sets at hF
  refine r_aload_n C 0 0 dX11_sets_0 rfl rfl ?_
  refine r_iload_n C 1 1 dX11_sets_1 rfl rfl ?_
  obtain ⟨σ1, eσ1, hF⟩ := nam_e hF
  refine r_put (kf := 15) (ty0 := tyX11) C dX11_sets_2 rfl rfl f_X11 tyX11_ok nmX11 (by decide) t_5_71 rfl rfl rfl rfl eσ1 ?_
  refine r_aload_n C 0 0 dX11_sets_5 rfl rfl ?_
  refine r_iload_n C 2 2 dX11_sets_6 rfl rfl ?_
  obtain ⟨σ2, eσ2, hF⟩ := nam_e hF
  refine r_put (kf := 16) (ty0 := tyX11) C dX11_sets_7 rfl rfl f_X11 tyX11_ok nmX11 (by decide) t_5_72 rfl rfl rfl rfl eσ2 ?_
  refine r_aload_n C 0 0 dX11_sets_10 rfl rfl ?_
  refine r_iload_n C 3 3 dX11_sets_11 rfl rfl ?_
  obtain ⟨σ3, eσ3, hF⟩ := nam_e hF
  refine r_put (kf := 17) (ty0 := tyX11) C dX11_sets_12 rfl rfl f_X11 tyX11_ok nmX11 (by decide) t_5_73 rfl rfl rfl rfl eσ3 ?_
  refine r_aload_n C 0 0 dX11_sets_15 rfl rfl ?_
  refine r_iconst (v := (0 : Int32)) C dX11_sets_16 rfl ?_
  obtain ⟨σ4, eσ4, hF⟩ := nam_e hF
  refine r_put (kf := 18) (ty0 := tyX11) C dX11_sets_17 rfl rfl f_X11 tyX11_ok nmX11 (by decide) t_5_74 rfl rfl rfl rfl eσ4 ?_
  refine r_aload_n C 0 0 dX11_sets_20 rfl rfl ?_
  refine r_bipush (v := (-4 : Int32)) C dX11_sets_21 rfl ?_
  obtain ⟨σ5, eσ5, hF⟩ := nam_e hF
  refine r_put (kf := 19) (ty0 := tyX11) C dX11_sets_23 rfl rfl f_X11 tyX11_ok nmX11 (by decide) t_5_75 rfl rfl rfl rfl eσ5 ?_
  exact r_return C dX11_sets_26 (rv_e hF)
def F_X11_oneEnds (a1 : Int32) (a2 : Int32) (σ : St) : Option (Unit × St) :=
  nam (uI σ (40, 0, 0) 18 a1) fun σ1 => nam (uI σ1 (40, 0, 0) 19 a2) fun σ2 => some ((), σ2)
set_option maxRecDepth 20000 in
set_option maxHeartbeats 4000000 in
theorem s_X11_oneEnds (G : Gx) (l : Launch) {a1 : Int32} {a2 : Int32} {σ σ' : St}  (hF : F_X11_oneEnds a1 a2 σ = some ((), σ')) : Sp G l yX11_oneEnds cX11_oneEnds 3 none (lvl 0) [vR (40, 0, 0), vI a1, vI a2] σ (va_Qv (fun b => b = σ') (Wd G) (AG G)) := by
  refine Sp_of (own := RX11) (by decide) rfl (Nat.le_of_ble_eq_true rfl) ?_
  intro p e s m args below meth c C
  show Rt G p l e (lvl 0) s m args below meth c 0 0 (MQ below (va_Qv (fun b => b = σ') (Wd G) (AG G)) args s 0 0 (AG G)) 3 0 [(0, vR (40, 0, 0)), (1, vI a1), (2, vI a2)] [] σ
  unfold F_X11_oneEnds at hF
  refine r_aload_n C 0 0 dX11_oneEnds_0 rfl rfl ?_
  refine r_iload_n C 1 1 dX11_oneEnds_1 rfl rfl ?_
  obtain ⟨σ1, eσ1, hF⟩ := nam_e hF
  refine r_put (kf := 18) (ty0 := tyX11) C dX11_oneEnds_2 rfl rfl f_X11 tyX11_ok nmX11 (by decide) t_5_74 rfl rfl rfl rfl eσ1 ?_
  refine r_aload_n C 0 0 dX11_oneEnds_5 rfl rfl ?_
  refine r_iload_n C 2 2 dX11_oneEnds_6 rfl rfl ?_
  obtain ⟨σ2, eσ2, hF⟩ := nam_e hF
  refine r_put (kf := 19) (ty0 := tyX11) C dX11_oneEnds_7 rfl rfl f_X11 tyX11_ok nmX11 (by decide) t_5_75 rfl rfl rfl rfl eσ2 ?_
  exact r_return C dX11_oneEnds_10 (rv_e hF)
def F_X11_oneGoes (a1 : Int32) (σ : St) : Option (Unit × St) :=
  bd (F_X11_isTooth (σ.1 (40, 0, 0) 15) (σ.1 (40, 0, 0) 16) σ) fun r2 σ1 => nam (fun (y4 : Int32) (σ6 : St) => bd (F_X11_nextTo (σ6.1 (40, 0, 0) 15) y4 σ6) fun r8 σ7 => bd (F_X11_isWall r8 σ7) fun r11 σ10 => (if r11 = 0 then nam (uI σ10 (40, 0, 0) 15 r8) fun σ13 => nam (uI σ13 (40, 0, 0) 17 y4) fun σ14 => ck (inb r8 576) ((if (σ14.1 (41, 0, 0) (r8.toNatClampNeg)) = (6 : Int32) then bd (F_X11_oneEnds (2 : Int32) a1 σ14) fun _ σ16 => some ((), σ16) else some ((), σ14))) else ck (decide (¬ (4 : Int32) = 0)) (nam (uI σ10 (40, 0, 0) 17 ((y4 + (1 : Int32)) - (y4 + (1 : Int32)) / (4 : Int32) * (4 : Int32))) fun σ20 => some ((), σ20)))) fun k5 => (if r2 = 0 then k5 (σ1.1 (40, 0, 0) 17) σ1 else ck (inb (σ1.1 (40, 0, 0) 15) 576) (k5 (σ1.1 (41, 0, 0) ((σ1.1 (40, 0, 0) 15).toNatClampNeg)) σ1))
set_option maxRecDepth 20000 in
set_option maxHeartbeats 4000000 in
theorem s_X11_oneGoes (G : Gx) (l : Launch) {a1 : Int32} {σ σ' : St}  (hF : F_X11_oneGoes a1 σ = some ((), σ')) : Sp G l yX11_oneGoes cX11_oneGoes 4 none (lvl 2) [vR (40, 0, 0), vI a1] σ (va_Qv (fun b => b = σ') (Wd G) (AG G)) := by
  refine Sp_of (own := RX11) (by decide) rfl (Nat.le_of_ble_eq_true rfl) ?_
  intro p e s m args below meth c C
  show Rt G p l e (lvl 2) s m args below meth c 0 0 (MQ below (va_Qv (fun b => b = σ') (Wd G) (AG G)) args s 0 0 (AG G)) 4 0 [(0, vR (40, 0, 0)), (1, vI a1)] [] σ
  unfold F_X11_oneGoes at hF
  refine r_aload_n C 0 0 dX11_oneGoes_0 rfl rfl ?_
  refine r_aload_n C 0 0 dX11_oneGoes_1 rfl rfl ?_
  refine r_getI (kf := 15) C dX11_oneGoes_2 rfl rfl f_X11 (by decide) t_5_71 rfl ?_
  refine r_aload_n C 0 0 dX11_oneGoes_5 rfl rfl ?_
  refine r_getI (kf := 16) C dX11_oneGoes_6 rfl rfl f_X11 (by decide) t_5_72 rfl ?_
  obtain ⟨r2, σ1, e3, hF⟩ := bd_e hF
  refine r_callV_i (as := [vI (σ.1 (40, 0, 0) 15), vI (σ.1 (40, 0, 0) 16)]) (st := []) C dX11_oneGoes_9 (s_X11_isTooth G l e3) rfl rfl rfl t_6_53 t_6_55 t_s_42 t_1_14 t_6_56 m_X11_isTooth ⟨Nat.le_of_ble_eq_true rfl, Nat.le_of_ble_eq_true rfl⟩ ⟨rfl, rfl⟩ ⟨Nat.zero_le _, Nat.zero_le _⟩ rfl (Nat.le_of_ble_eq_true rfl) ?_
  obtain ⟨k5, ek5, hF⟩ := nam_e hF
  have hk5 : ∀ (y4 : Int32) (σ6 : St), k5 y4 σ6 = some ((), σ') → Rt G p l e (lvl 2) s m args below meth c 0 0 (MQ below (va_Qv (fun b => b = σ') (Wd G) (AG G)) args s 0 0 (AG G)) 4 31 [(0, vR (40, 0, 0)), (1, vI a1)] [vI y4] σ6 := by
    intro y4 σ6 hF
    subst ek5
    refine r_istore_n (ls2 := [(2, vI y4), (0, vR (40, 0, 0)), (1, vI a1)]) C dX11_oneGoes_31 2 rfl (by decide) rfl ?_
    refine r_aload_n C 1 0 dX11_oneGoes_32 rfl rfl ?_
    refine r_getI (kf := 15) C dX11_oneGoes_33 rfl rfl f_X11 (by decide) t_5_71 rfl ?_
    refine r_iload_n C 0 2 dX11_oneGoes_36 rfl rfl ?_
    obtain ⟨r8, σ7, e9, hF⟩ := bd_e hF
    refine r_callS_i (as := [vI (σ6.1 (40, 0, 0) 15), vI y4]) (st := []) C dX11_oneGoes_37 (s_X11_nextTo G l e9) t_6_62 t_6_63 t_1_14 t_6_64 m_X11_nextTo ⟨Nat.le_of_ble_eq_true rfl, Nat.le_of_ble_eq_true rfl⟩ ⟨rfl, rfl⟩ ⟨Nat.zero_le _, Nat.zero_le _⟩ rfl (Nat.le_of_ble_eq_true rfl) ?_
    refine r_istore_n (ls2 := [(3, vI r8), (2, vI y4), (0, vR (40, 0, 0)), (1, vI a1)]) C dX11_oneGoes_40 3 rfl (by decide) rfl ?_
    refine r_aload_n C 2 0 dX11_oneGoes_41 rfl rfl ?_
    refine r_iload_n C 0 3 dX11_oneGoes_42 rfl rfl ?_
    obtain ⟨r11, σ10, e12, hF⟩ := bd_e hF
    refine r_callV_i (as := [vI r8]) (st := []) C dX11_oneGoes_43 (s_X11_isWall G l e12) rfl rfl rfl t_6_66 t_6_68 t_s_44 t_1_14 t_6_69 m_X11_isWall ⟨Nat.le_of_ble_eq_true rfl, Nat.le_of_ble_eq_true rfl⟩ ⟨rfl, rfl⟩ ⟨Nat.zero_le _, Nat.zero_le _⟩ rfl (Nat.le_of_ble_eq_true rfl) ?_
    refine r_if_eq C 59 dX11_oneGoes_46 (by decide)  (fun h21 => ?_) (fun h21 => ?_)
    · have hF := if_t h21 hF
      refine r_aload_n C 2 0 dX11_oneGoes_59 rfl rfl ?_
      refine r_iload_n C 0 3 dX11_oneGoes_60 rfl rfl ?_
      obtain ⟨σ13, eσ13, hF⟩ := nam_e hF
      refine r_put (kf := 15) (ty0 := tyX11) C dX11_oneGoes_61 rfl rfl f_X11 tyX11_ok nmX11 (by decide) t_5_71 rfl rfl rfl rfl eσ13 ?_
      refine r_aload_n C 2 0 dX11_oneGoes_64 rfl rfl ?_
      refine r_iload_n C 1 2 dX11_oneGoes_65 rfl rfl ?_
      obtain ⟨σ14, eσ14, hF⟩ := nam_e hF
      refine r_put (kf := 17) (ty0 := tyX11) C dX11_oneGoes_66 rfl rfl f_X11 tyX11_ok nmX11 (by decide) t_5_73 rfl rfl rfl rfl eσ14 ?_
      refine r_aload_n C 2 0 dX11_oneGoes_69 rfl rfl ?_
      refine r_getR (kf := 0) (d2 := (41, 0, 0)) C dX11_oneGoes_70 rfl rfl f_X11 (by decide) t_5_56 rfl rfl ?_
      refine r_iload_n C 0 3 dX11_oneGoes_73 rfl rfl ?_
      obtain ⟨h15, hF⟩ := ck_e hF
      refine r_iaload C (r8.toNatClampNeg) dX11_oneGoes_74 rfl h15 rfl ?_
      refine r_bipush (v := (6 : Int32)) C dX11_oneGoes_75 rfl ?_
      refine r_icmp_ne C 86 dX11_oneGoes_77 (by decide)  (fun h18 => ?_) (fun h18 => ?_)
      · have hF := if_f h18 hF
        exact r_return C dX11_oneGoes_86 (rv_e hF)
      · have hF := if_t h18 hF
        refine r_aload_n C 2 0 dX11_oneGoes_80 rfl rfl ?_
        refine r_iconst (v := (2 : Int32)) C dX11_oneGoes_81 rfl ?_
        refine r_iload_n C 3 1 dX11_oneGoes_82 rfl rfl ?_
        obtain ⟨⟨⟩, σ16, e17, hF⟩ := bd_e hF
        refine r_callV_v (as := [vI (2 : Int32), vI a1]) (st := []) C dX11_oneGoes_83 (s_X11_oneEnds G l e17) rfl rfl rfl t_6_119 t_6_121 t_s_49 t_1_14 t_6_122 m_X11_oneEnds ⟨Nat.le_of_ble_eq_true rfl, Nat.le_of_ble_eq_true rfl⟩ ⟨rfl, rfl⟩ ⟨Nat.zero_le _, Nat.zero_le _⟩ rfl (Nat.le_of_ble_eq_true rfl) ?_
        exact r_return C dX11_oneGoes_86 (rv_e hF)
    · have hF := if_f h21 hF
      refine r_aload_n C 2 0 dX11_oneGoes_49 rfl rfl ?_
      refine r_iload_n C 1 2 dX11_oneGoes_50 rfl rfl ?_
      refine r_iconst (v := (1 : Int32)) C dX11_oneGoes_51 rfl ?_
      refine r_iadd C dX11_oneGoes_52 ?_
      refine r_iconst (v := (4 : Int32)) C dX11_oneGoes_53 rfl ?_
      obtain ⟨h19, hF⟩ := ck_e hF
      refine r_irem C dX11_oneGoes_54 (nz h19) ?_
      obtain ⟨σ20, eσ20, hF⟩ := nam_e hF
      refine r_put (kf := 17) (ty0 := tyX11) C dX11_oneGoes_55 rfl rfl f_X11 tyX11_ok nmX11 (by decide) t_5_73 rfl rfl rfl rfl eσ20 ?_
      exact r_return C dX11_oneGoes_58 (rv_e hF)
  refine r_if_eq C 27 dX11_oneGoes_12 (by decide)  (fun h23 => ?_) (fun h23 => ?_)
  · have hF := if_t h23 hF
    refine r_aload_n C 0 0 dX11_oneGoes_27 rfl rfl ?_
    refine r_getI (kf := 17) C dX11_oneGoes_28 rfl rfl f_X11 (by decide) t_5_73 rfl ?_
    exact hk5 _ _ hF
  · have hF := if_f h23 hF
    refine r_aload_n C 0 0 dX11_oneGoes_15 rfl rfl ?_
    refine r_getR (kf := 0) (d2 := (41, 0, 0)) C dX11_oneGoes_16 rfl rfl f_X11 (by decide) t_5_56 rfl rfl ?_
    refine r_aload_n C 0 0 dX11_oneGoes_19 rfl rfl ?_
    refine r_getI (kf := 15) C dX11_oneGoes_20 rfl rfl f_X11 (by decide) t_5_71 rfl ?_
    obtain ⟨h22, hF⟩ := ck_e hF
    refine r_iaload C ((σ1.1 (40, 0, 0) 15).toNatClampNeg) dX11_oneGoes_23 rfl h22 rfl ?_
    refine r_goto C 31 dX11_oneGoes_24 (by decide) ?_
    exact hk5 _ _ hF
def F_X11_oneActs (a1 : Int32) (σ : St) : Option (Unit × St) :=
  ck (inb (170 : Int32) 576) ((if (σ.1 (41, 0, 0) 170) = 0 then ck (inb (169 : Int32) 576) (bd (F_X11_hisses (σ.1 (40, 0, 0) 16) (σ.1 (41, 0, 0) 169) σ) fun r4 σ3 => nam (uI σ3 (40, 0, 0) 16 ((σ.1 (40, 0, 0) 16) - r4)) fun σ6 => (if (σ6.1 (40, 0, 0) 16) = 0 then bd (F_X11_oneEnds (1 : Int32) a1 σ6) fun _ σ7 => some ((), σ7) else some ((), σ6))) else ck (inb (σ.1 (40, 0, 0) 15) 576) ((if (σ.1 (41, 0, 0) ((σ.1 (40, 0, 0) 15).toNatClampNeg)) = (7 : Int32) then ck (inb (169 : Int32) 576) (bd (F_X11_hisses (σ.1 (40, 0, 0) 16) (σ.1 (41, 0, 0) 169) σ) fun r26 σ25 => nam (uI σ25 (40, 0, 0) 16 ((σ.1 (40, 0, 0) 16) - r26)) fun σ28 => (if (σ28.1 (40, 0, 0) 16) = 0 then bd (F_X11_oneEnds (1 : Int32) a1 σ28) fun _ σ29 => some ((), σ29) else some ((), σ28))) else bd (F_X11_thins (σ.1 (40, 0, 0) 16) a1 σ) fun r12 σ11 => nam (uI σ11 (40, 0, 0) 16 ((σ.1 (40, 0, 0) 16) - r12)) fun σ14 => (if (σ14.1 (40, 0, 0) 16) = 0 then bd (F_X11_oneEnds (1 : Int32) a1 σ14) fun _ σ21 => some ((), σ21) else ck (inb (4 : Int32) 9) ((if (σ14.1 (43, 0, 0) 4) < (σ14.1 (40, 0, 0) 16) then bd (F_X11_oneGoes a1 σ14) fun _ σ16 => some ((), σ16) else bd (F_X11_oneEnds (3 : Int32) a1 σ14) fun _ σ18 => some ((), σ18))))))))
set_option maxRecDepth 20000 in
set_option maxHeartbeats 4000000 in
theorem s_X11_oneActs (G : Gx) (l : Launch) {a1 : Int32} {σ σ' : St}  (hF : F_X11_oneActs a1 σ = some ((), σ')) : Sp G l yX11_oneActs cX11_oneActs 2 none (lvl 3) [vR (40, 0, 0), vI a1] σ (va_Qv (fun b => b = σ') (Wd G) (AG G)) := by
  refine Sp_of (own := RX11) (by decide) rfl (Nat.le_of_ble_eq_true rfl) ?_
  intro p e s m args below meth c C
  show Rt G p l e (lvl 3) s m args below meth c 0 0 (MQ below (va_Qv (fun b => b = σ') (Wd G) (AG G)) args s 0 0 (AG G)) 2 0 [(0, vR (40, 0, 0)), (1, vI a1)] [] σ
  unfold F_X11_oneActs at hF
  refine r_aload_n C 0 0 dX11_oneActs_0 rfl rfl ?_
  refine r_getR (kf := 0) (d2 := (41, 0, 0)) C dX11_oneActs_1 rfl rfl f_X11 (by decide) t_5_56 rfl rfl ?_
  refine r_sipush (v := (170 : Int32)) C dX11_oneActs_4 rfl ?_
  obtain ⟨h1, hF⟩ := ck_e hF
  refine r_iaload C 170 dX11_oneActs_7 rfl h1 rfl ?_
  refine r_if_eq C 25 dX11_oneActs_8 (by decide)  (fun h33 => ?_) (fun h33 => ?_)
  · have hF := if_t h33 hF
    refine r_aload_n C 0 0 dX11_oneActs_25 rfl rfl ?_
    refine r_dup_r C dX11_oneActs_26 ?_
    refine r_getI (kf := 16) C dX11_oneActs_27 rfl rfl f_X11 (by decide) t_5_72 rfl ?_
    refine r_aload_n C 0 0 dX11_oneActs_30 rfl rfl ?_
    refine r_aload_n C 0 0 dX11_oneActs_31 rfl rfl ?_
    refine r_getI (kf := 16) C dX11_oneActs_32 rfl rfl f_X11 (by decide) t_5_72 rfl ?_
    refine r_aload_n C 0 0 dX11_oneActs_35 rfl rfl ?_
    refine r_getR (kf := 0) (d2 := (41, 0, 0)) C dX11_oneActs_36 rfl rfl f_X11 (by decide) t_5_56 rfl rfl ?_
    refine r_sipush (v := (169 : Int32)) C dX11_oneActs_39 rfl ?_
    obtain ⟨h2, hF⟩ := ck_e hF
    refine r_iaload C 169 dX11_oneActs_42 rfl h2 rfl ?_
    obtain ⟨r4, σ3, e5, hF⟩ := bd_e hF
    refine r_callV_i (as := [vI (σ.1 (40, 0, 0) 16), vI (σ.1 (41, 0, 0) 169)]) (st := [vI (σ.1 (40, 0, 0) 16), vR (40, 0, 0)]) C dX11_oneActs_43 (s_X11_hisses G l e5) rfl rfl rfl t_6_30 t_6_32 t_s_37 t_1_14 t_6_33 m_X11_hisses ⟨Nat.le_of_ble_eq_true rfl, Nat.le_of_ble_eq_true rfl⟩ ⟨rfl, rfl⟩ ⟨Nat.zero_le _, Nat.zero_le _⟩ rfl (Nat.le_of_ble_eq_true rfl) ?_
    refine r_isub C dX11_oneActs_46 ?_
    obtain ⟨σ6, eσ6, hF⟩ := nam_e hF
    refine r_put (kf := 16) (ty0 := tyX11) C dX11_oneActs_47 rfl rfl f_X11 tyX11_ok nmX11 (by decide) t_5_72 rfl rfl rfl rfl eσ6 ?_
    refine r_aload_n C 0 0 dX11_oneActs_50 rfl rfl ?_
    refine r_getI (kf := 16) C dX11_oneActs_51 rfl rfl f_X11 (by decide) t_5_72 rfl ?_
    refine r_if_ne C 63 dX11_oneActs_54 (by decide)  (fun h9 => ?_) (fun h9 => ?_)
    · have hF := if_f h9 hF
      exact r_return C dX11_oneActs_63 (rv_e hF)
    · have hF := if_t h9 hF
      refine r_aload_n C 0 0 dX11_oneActs_57 rfl rfl ?_
      refine r_iconst (v := (1 : Int32)) C dX11_oneActs_58 rfl ?_
      refine r_iload_n C 1 1 dX11_oneActs_59 rfl rfl ?_
      obtain ⟨⟨⟩, σ7, e8, hF⟩ := bd_e hF
      refine r_callV_v (as := [vI (1 : Int32), vI a1]) (st := []) C dX11_oneActs_60 (s_X11_oneEnds G l e8) rfl rfl rfl t_6_119 t_6_121 t_s_49 t_1_14 t_6_122 m_X11_oneEnds ⟨Nat.le_of_ble_eq_true rfl, Nat.le_of_ble_eq_true rfl⟩ ⟨rfl, rfl⟩ ⟨Nat.zero_le _, Nat.zero_le _⟩ rfl (Nat.le_of_ble_eq_true rfl) ?_
      exact r_return C dX11_oneActs_63 (rv_e hF)
  · have hF := if_f h33 hF
    refine r_aload_n C 0 0 dX11_oneActs_11 rfl rfl ?_
    refine r_getR (kf := 0) (d2 := (41, 0, 0)) C dX11_oneActs_12 rfl rfl f_X11 (by decide) t_5_56 rfl rfl ?_
    refine r_aload_n C 0 0 dX11_oneActs_15 rfl rfl ?_
    refine r_getI (kf := 15) C dX11_oneActs_16 rfl rfl f_X11 (by decide) t_5_71 rfl ?_
    obtain ⟨h10, hF⟩ := ck_e hF
    refine r_iaload C ((σ.1 (40, 0, 0) 15).toNatClampNeg) dX11_oneActs_19 rfl h10 rfl ?_
    refine r_bipush (v := (7 : Int32)) C dX11_oneActs_20 rfl ?_
    refine r_icmp_ne C 64 dX11_oneActs_22 (by decide)  (fun h32 => ?_) (fun h32 => ?_)
    · have hF := if_f h32 hF
      refine r_aload_n C 0 0 dX11_oneActs_64 rfl rfl ?_
      refine r_dup_r C dX11_oneActs_65 ?_
      refine r_getI (kf := 16) C dX11_oneActs_66 rfl rfl f_X11 (by decide) t_5_72 rfl ?_
      refine r_aload_n C 0 0 dX11_oneActs_69 rfl rfl ?_
      refine r_aload_n C 0 0 dX11_oneActs_70 rfl rfl ?_
      refine r_getI (kf := 16) C dX11_oneActs_71 rfl rfl f_X11 (by decide) t_5_72 rfl ?_
      refine r_iload_n C 1 1 dX11_oneActs_74 rfl rfl ?_
      obtain ⟨r12, σ11, e13, hF⟩ := bd_e hF
      refine r_callV_i (as := [vI (σ.1 (40, 0, 0) 16), vI a1]) (st := [vI (σ.1 (40, 0, 0) 16), vR (40, 0, 0)]) C dX11_oneActs_75 (s_X11_thins G l e13) rfl rfl rfl t_6_45 t_6_47 t_s_40 t_1_14 t_6_48 m_X11_thins ⟨Nat.le_of_ble_eq_true rfl, Nat.le_of_ble_eq_true rfl⟩ ⟨rfl, rfl⟩ ⟨Nat.zero_le _, Nat.zero_le _⟩ rfl (Nat.le_of_ble_eq_true rfl) ?_
      refine r_isub C dX11_oneActs_78 ?_
      obtain ⟨σ14, eσ14, hF⟩ := nam_e hF
      refine r_put (kf := 16) (ty0 := tyX11) C dX11_oneActs_79 rfl rfl f_X11 tyX11_ok nmX11 (by decide) t_5_72 rfl rfl rfl rfl eσ14 ?_
      refine r_aload_n C 0 0 dX11_oneActs_82 rfl rfl ?_
      refine r_getI (kf := 16) C dX11_oneActs_83 rfl rfl f_X11 (by decide) t_5_72 rfl ?_
      refine r_if_ne C 98 dX11_oneActs_86 (by decide)  (fun h23 => ?_) (fun h23 => ?_)
      · have hF := if_f h23 hF
        refine r_aload_n C 0 0 dX11_oneActs_98 rfl rfl ?_
        refine r_getI (kf := 16) C dX11_oneActs_99 rfl rfl f_X11 (by decide) t_5_72 rfl ?_
        refine r_aload_n C 0 0 dX11_oneActs_102 rfl rfl ?_
        refine r_getR (kf := 2) (d2 := (43, 0, 0)) C dX11_oneActs_103 rfl rfl f_X11 (by decide) t_5_58 rfl rfl ?_
        refine r_iconst (v := (4 : Int32)) C dX11_oneActs_106 rfl ?_
        obtain ⟨h15, hF⟩ := ck_e hF
        refine r_iaload C 4 dX11_oneActs_107 rfl h15 rfl ?_
        refine r_icmp_gt C 120 dX11_oneActs_108 (by decide)  (fun h20 => ?_) (fun h20 => ?_)
        · have hF := if_t h20 hF
          refine r_aload_n C 0 0 dX11_oneActs_120 rfl rfl ?_
          refine r_iload_n C 1 1 dX11_oneActs_121 rfl rfl ?_
          obtain ⟨⟨⟩, σ16, e17, hF⟩ := bd_e hF
          refine r_callV_v (as := [vI a1]) (st := []) C dX11_oneActs_122 (s_X11_oneGoes G l e17) rfl rfl rfl t_6_123 t_6_125 t_s_50 t_1_14 t_6_126 m_X11_oneGoes ⟨Nat.le_of_ble_eq_true rfl, Nat.le_of_ble_eq_true rfl⟩ ⟨rfl, rfl⟩ ⟨Nat.zero_le _, Nat.zero_le _⟩ rfl (Nat.le_of_ble_eq_true rfl) ?_
          exact r_return C dX11_oneActs_125 (rv_e hF)
        · have hF := if_f h20 hF
          refine r_aload_n C 0 0 dX11_oneActs_111 rfl rfl ?_
          refine r_iconst (v := (3 : Int32)) C dX11_oneActs_112 rfl ?_
          refine r_iload_n C 1 1 dX11_oneActs_113 rfl rfl ?_
          obtain ⟨⟨⟩, σ18, e19, hF⟩ := bd_e hF
          refine r_callV_v (as := [vI (3 : Int32), vI a1]) (st := []) C dX11_oneActs_114 (s_X11_oneEnds G l e19) rfl rfl rfl t_6_119 t_6_121 t_s_49 t_1_14 t_6_122 m_X11_oneEnds ⟨Nat.le_of_ble_eq_true rfl, Nat.le_of_ble_eq_true rfl⟩ ⟨rfl, rfl⟩ ⟨Nat.zero_le _, Nat.zero_le _⟩ rfl (Nat.le_of_ble_eq_true rfl) ?_
          refine r_goto C 125 dX11_oneActs_117 (by decide) ?_
          exact r_return C dX11_oneActs_125 (rv_e hF)
      · have hF := if_t h23 hF
        refine r_aload_n C 0 0 dX11_oneActs_89 rfl rfl ?_
        refine r_iconst (v := (1 : Int32)) C dX11_oneActs_90 rfl ?_
        refine r_iload_n C 1 1 dX11_oneActs_91 rfl rfl ?_
        obtain ⟨⟨⟩, σ21, e22, hF⟩ := bd_e hF
        refine r_callV_v (as := [vI (1 : Int32), vI a1]) (st := []) C dX11_oneActs_92 (s_X11_oneEnds G l e22) rfl rfl rfl t_6_119 t_6_121 t_s_49 t_1_14 t_6_122 m_X11_oneEnds ⟨Nat.le_of_ble_eq_true rfl, Nat.le_of_ble_eq_true rfl⟩ ⟨rfl, rfl⟩ ⟨Nat.zero_le _, Nat.zero_le _⟩ rfl (Nat.le_of_ble_eq_true rfl) ?_
        refine r_goto C 125 dX11_oneActs_95 (by decide) ?_
        exact r_return C dX11_oneActs_125 (rv_e hF)
    · have hF := if_t h32 hF
      refine r_aload_n C 0 0 dX11_oneActs_25 rfl rfl ?_
      refine r_dup_r C dX11_oneActs_26 ?_
      refine r_getI (kf := 16) C dX11_oneActs_27 rfl rfl f_X11 (by decide) t_5_72 rfl ?_
      refine r_aload_n C 0 0 dX11_oneActs_30 rfl rfl ?_
      refine r_aload_n C 0 0 dX11_oneActs_31 rfl rfl ?_
      refine r_getI (kf := 16) C dX11_oneActs_32 rfl rfl f_X11 (by decide) t_5_72 rfl ?_
      refine r_aload_n C 0 0 dX11_oneActs_35 rfl rfl ?_
      refine r_getR (kf := 0) (d2 := (41, 0, 0)) C dX11_oneActs_36 rfl rfl f_X11 (by decide) t_5_56 rfl rfl ?_
      refine r_sipush (v := (169 : Int32)) C dX11_oneActs_39 rfl ?_
      obtain ⟨h24, hF⟩ := ck_e hF
      refine r_iaload C 169 dX11_oneActs_42 rfl h24 rfl ?_
      obtain ⟨r26, σ25, e27, hF⟩ := bd_e hF
      refine r_callV_i (as := [vI (σ.1 (40, 0, 0) 16), vI (σ.1 (41, 0, 0) 169)]) (st := [vI (σ.1 (40, 0, 0) 16), vR (40, 0, 0)]) C dX11_oneActs_43 (s_X11_hisses G l e27) rfl rfl rfl t_6_30 t_6_32 t_s_37 t_1_14 t_6_33 m_X11_hisses ⟨Nat.le_of_ble_eq_true rfl, Nat.le_of_ble_eq_true rfl⟩ ⟨rfl, rfl⟩ ⟨Nat.zero_le _, Nat.zero_le _⟩ rfl (Nat.le_of_ble_eq_true rfl) ?_
      refine r_isub C dX11_oneActs_46 ?_
      obtain ⟨σ28, eσ28, hF⟩ := nam_e hF
      refine r_put (kf := 16) (ty0 := tyX11) C dX11_oneActs_47 rfl rfl f_X11 tyX11_ok nmX11 (by decide) t_5_72 rfl rfl rfl rfl eσ28 ?_
      refine r_aload_n C 0 0 dX11_oneActs_50 rfl rfl ?_
      refine r_getI (kf := 16) C dX11_oneActs_51 rfl rfl f_X11 (by decide) t_5_72 rfl ?_
      refine r_if_ne C 63 dX11_oneActs_54 (by decide)  (fun h31 => ?_) (fun h31 => ?_)
      · have hF := if_f h31 hF
        exact r_return C dX11_oneActs_63 (rv_e hF)
      · have hF := if_t h31 hF
        refine r_aload_n C 0 0 dX11_oneActs_57 rfl rfl ?_
        refine r_iconst (v := (1 : Int32)) C dX11_oneActs_58 rfl ?_
        refine r_iload_n C 1 1 dX11_oneActs_59 rfl rfl ?_
        obtain ⟨⟨⟩, σ29, e30, hF⟩ := bd_e hF
        refine r_callV_v (as := [vI (1 : Int32), vI a1]) (st := []) C dX11_oneActs_60 (s_X11_oneEnds G l e30) rfl rfl rfl t_6_119 t_6_121 t_s_49 t_1_14 t_6_122 m_X11_oneEnds ⟨Nat.le_of_ble_eq_true rfl, Nat.le_of_ble_eq_true rfl⟩ ⟨rfl, rfl⟩ ⟨Nat.zero_le _, Nat.zero_le _⟩ rfl (Nat.le_of_ble_eq_true rfl) ?_
        exact r_return C dX11_oneActs_63 (rv_e hF)
def L_X11_alone_62 (c4 : Int32) (c5 : Int32) : Nat → Int32 → St → (St → Option (Int32 × St)) → Option (Int32 × St)
  | 0, _, _, _ => none
  | n + 1, v6, τ, kx88 =>
  (if c4 ≤ v6 then kx88  τ else (if (τ.1 (40, 0, 0) 18) = 0 then bd (F_X11_oneActs v6 τ) fun _ σ16 => nam (v6 + (1 : Int32)) fun x18 => L_X11_alone_62 c4 c5 n x18 σ16 kx88 else kx88  τ))
def F_X11_alone (a1 : Int32) (a2 : Int32) (a3 : Int32) (a4 : Int32) (a5 : Int32) (σ : St) : Option (Int32 × St) :=
  bd (F_X11_isDrop a1 a2 a3 σ) fun r2 σ1 => (if r2 = 0 then some ((-1 : Int32), σ1) else bd (F_X11_in (a4.toInt64) (0 : Int64) (400 : Int64) σ1) fun r5 σ4 => (if r5 = 0 then some ((-1 : Int32), σ4) else bd (F_X11_in (a5.toInt64) (0 : Int64) (3 : Int64) σ4) fun r8 σ7 => (if r8 = 0 then some ((-1 : Int32), σ7) else ck (inb a1 576) (bd (F_X11_isShut (σ7.1 (41, 0, 0) (a1.toNatClampNeg)) σ7) fun r12 σ11 => (if r12 = 0 then bd (F_X11_sets a1 a2 a3 σ11) fun _ σ14 => L_X11_alone_62 a4 a5 FU (0 : Int32) σ14 (fun  (σ21 : St) => (if a5 = 0 then some (σ21.1 (40, 0, 0) 15, σ21) else (if a5 = (1 : Int32) then some (σ21.1 (40, 0, 0) 16, σ21) else (if a5 = (2 : Int32) then some (σ21.1 (40, 0, 0) 18, σ21) else some (σ21.1 (40, 0, 0) 19, σ21))))) else some ((-2 : Int32), σ11))))))
set_option maxRecDepth 20000 in
set_option maxHeartbeats 4000000 in
theorem l_X11_alone_62 {G : Gx} {p : Program} {l : Launch} {e : Env} {s : State} {m : MethodId} {args : Array Value} {below : List Frame} {meth : Method} {c : Code} (C : Cx G p s m args meth c (some .int) 7 RX11 cX11_alone) (c4 : Int32) (c5 : Int32) {σ' : St} {r : Int32} (kx88 : St → Option (Int32 × St)) (hkx88 : ∀  (τ : St), kx88  τ = some (r, σ') → Rt G p l e (lvl 4) s m args below meth c 0 0 (MQ below (va_Qi (fun a b => a = r ∧ b = σ') (Wd G) (AG G)) args s 0 0 (AG G)) 7 88 [(0, vR (40, 0, 0)), (5, vI c5)] [] τ) : ∀ (n : Nat) (v6 : Int32) (τ : St), L_X11_alone_62 c4 c5 n v6 τ kx88 = some (r, σ') → Rt G p l e (lvl 4) s m args below meth c 0 0 (MQ below (va_Qi (fun a b => a = r ∧ b = σ') (Wd G) (AG G)) args s 0 0 (AG G)) 7 62 [(0, vR (40, 0, 0)), (4, vI c4), (5, vI c5), (6, vI v6)] [] τ := by
  intro n
  induction n with
  | zero => intro v6 τ hF; cases hF
  | succ n ih =>
    intro v6 τ hF
    unfold L_X11_alone_62 at hF
    refine r_iload C 3 dX11_alone_62 rfl ?_
    refine r_iload C 1 dX11_alone_64 rfl ?_
    refine r_icmp_ge C 88 dX11_alone_66 (by decide)  (fun h20 => ?_) (fun h20 => ?_)
    · have hF := if_t h20 hF
      refine r_drop (ls2 := [(0, vR (40, 0, 0)), (5, vI c5)]) [0, 2] rfl ?_
      exact hkx88 _ hF
    · have hF := if_f h20 hF
      refine r_aload_n C 0 0 dX11_alone_69 rfl rfl ?_
      refine r_getI (kf := 18) C dX11_alone_70 rfl rfl f_X11 (by decide) t_5_74 rfl ?_
      refine r_if_ne C 88 dX11_alone_73 (by decide)  (fun h19 => ?_) (fun h19 => ?_)
      · have hF := if_f h19 hF
        refine r_drop (ls2 := [(0, vR (40, 0, 0)), (5, vI c5)]) [0, 2] rfl ?_
        exact hkx88 _ hF
      · have hF := if_t h19 hF
        refine r_aload_n C 0 0 dX11_alone_76 rfl rfl ?_
        refine r_iload C 3 dX11_alone_77 rfl ?_
        obtain ⟨⟨⟩, σ16, e17, hF⟩ := bd_e hF
        refine r_callV_v (as := [vI v6]) (st := []) C dX11_alone_79 (s_X11_oneActs G l e17) rfl rfl rfl t_6_115 t_6_117 t_s_48 t_1_14 t_6_118 m_X11_oneActs ⟨Nat.le_of_ble_eq_true rfl, Nat.le_of_ble_eq_true rfl⟩ ⟨rfl, rfl⟩ ⟨Nat.zero_le _, Nat.zero_le _⟩ rfl (Nat.le_of_ble_eq_true rfl) ?_
        obtain ⟨x18, ex18, hF⟩ := nam_e hF
        refine r_iinc (v := x18) (ls2 := [(6, vI x18), (0, vR (40, 0, 0)), (4, vI c4), (5, vI c5)]) C 3 dX11_alone_82 rfl ex18.symm (by decide) rfl ?_
        refine r_goto C 62 dX11_alone_85 (by decide) ?_
        refine r_drop (ls2 := [(0, vR (40, 0, 0)), (4, vI c4), (5, vI c5), (6, vI x18)]) [1, 2, 3, 0] rfl ?_
        exact ih _ _ hF
set_option maxRecDepth 20000 in
set_option maxHeartbeats 4000000 in
theorem s_X11_alone (G : Gx) (l : Launch) {a1 : Int32} {a2 : Int32} {a3 : Int32} {a4 : Int32} {a5 : Int32} {σ σ' : St} {r : Int32} (hF : F_X11_alone a1 a2 a3 a4 a5 σ = some (r, σ')) : Sp G l yX11_alone cX11_alone 7 (some .int) (lvl 4) [vR (40, 0, 0), vI a1, vI a2, vI a3, vI a4, vI a5] σ (va_Qi (fun a b => a = r ∧ b = σ') (Wd G) (AG G)) := by
  refine Sp_of (own := RX11) (by decide) rfl (Nat.le_of_ble_eq_true rfl) ?_
  intro p e s m args below meth c C
  show Rt G p l e (lvl 4) s m args below meth c 0 0 (MQ below (va_Qi (fun a b => a = r ∧ b = σ') (Wd G) (AG G)) args s 0 0 (AG G)) 7 0 [(0, vR (40, 0, 0)), (1, vI a1), (2, vI a2), (3, vI a3), (4, vI a4), (5, vI a5)] [] σ
  unfold F_X11_alone at hF
  refine r_iload_n C 1 1 dX11_alone_0 rfl rfl ?_
  refine r_iload_n C 2 2 dX11_alone_1 rfl rfl ?_
  refine r_iload_n C 3 3 dX11_alone_2 rfl rfl ?_
  obtain ⟨r2, σ1, e3, hF⟩ := bd_e hF
  refine r_callS_i (as := [vI a1, vI a2, vI a3]) (st := []) C dX11_alone_3 (s_X11_isDrop G l e3) t_6_12 t_6_13 t_1_14 t_6_14 m_X11_isDrop ⟨Nat.le_of_ble_eq_true rfl, Nat.le_of_ble_eq_true rfl⟩ ⟨rfl, rfl⟩ ⟨Nat.zero_le _, Nat.zero_le _⟩ rfl (Nat.le_of_ble_eq_true rfl) ?_
  refine r_if_eq C 35 dX11_alone_6 (by decide)  (fun h28 => ?_) (fun h28 => ?_)
  · have hF := if_t h28 hF
    refine r_iconst (v := (-1 : Int32)) C dX11_alone_35 rfl ?_
    exact r_ireturn C dX11_alone_36 (rt_e hF)
  · have hF := if_f h28 hF
    refine r_iload C 4 dX11_alone_9 rfl ?_
    refine r_i2l C dX11_alone_11 ?_
    refine r_lconst (v := (0 : Int64)) C dX11_alone_12 rfl ?_
    refine r_ldc2_w (v := (400 : Int64)) C dX11_alone_13 t_6_110 ?_
    obtain ⟨r5, σ4, e6, hF⟩ := bd_e hF
    refine r_callS_i (as := [vL (a4.toInt64), vL (0 : Int64), vL (400 : Int64)]) (st := []) C dX11_alone_16 (s_X11_in G l e6) t_5_153 t_5_154 t_1_14 t_5_155 m_X11_in ⟨Nat.le_of_ble_eq_true rfl, Nat.le_of_ble_eq_true rfl⟩ ⟨rfl, rfl⟩ ⟨Nat.zero_le _, Nat.zero_le _⟩ rfl (Nat.le_of_ble_eq_true rfl) ?_
    refine r_if_eq C 35 dX11_alone_19 (by decide)  (fun h27 => ?_) (fun h27 => ?_)
    · have hF := if_t h27 hF
      refine r_iconst (v := (-1 : Int32)) C dX11_alone_35 rfl ?_
      exact r_ireturn C dX11_alone_36 (rt_e hF)
    · have hF := if_f h27 hF
      refine r_iload C 5 dX11_alone_22 rfl ?_
      refine r_i2l C dX11_alone_24 ?_
      refine r_lconst (v := (0 : Int64)) C dX11_alone_25 rfl ?_
      refine r_ldc2_w (v := (3 : Int64)) C dX11_alone_26 t_6_16 ?_
      obtain ⟨r8, σ7, e9, hF⟩ := bd_e hF
      refine r_callS_i (as := [vL (a5.toInt64), vL (0 : Int64), vL (3 : Int64)]) (st := []) C dX11_alone_29 (s_X11_in G l e9) t_5_153 t_5_154 t_1_14 t_5_155 m_X11_in ⟨Nat.le_of_ble_eq_true rfl, Nat.le_of_ble_eq_true rfl⟩ ⟨rfl, rfl⟩ ⟨Nat.zero_le _, Nat.zero_le _⟩ rfl (Nat.le_of_ble_eq_true rfl) ?_
      refine r_if_ne C 37 dX11_alone_32 (by decide)  (fun h26 => ?_) (fun h26 => ?_)
      · have hF := if_f h26 hF
        refine r_aload_n C 0 0 dX11_alone_37 rfl rfl ?_
        refine r_getR (kf := 0) (d2 := (41, 0, 0)) C dX11_alone_38 rfl rfl f_X11 (by decide) t_5_56 rfl rfl ?_
        refine r_iload_n C 1 1 dX11_alone_41 rfl rfl ?_
        obtain ⟨h10, hF⟩ := ck_e hF
        refine r_iaload C (a1.toNatClampNeg) dX11_alone_42 rfl h10 rfl ?_
        obtain ⟨r12, σ11, e13, hF⟩ := bd_e hF
        refine r_callS_i (as := [vI (σ7.1 (41, 0, 0) (a1.toNatClampNeg))]) (st := []) C dX11_alone_43 (s_X11_isShut G l e13) t_5_232 t_5_233 t_1_14 t_5_234 m_X11_isShut ⟨Nat.le_of_ble_eq_true rfl, Nat.le_of_ble_eq_true rfl⟩ ⟨rfl, rfl⟩ ⟨Nat.zero_le _, Nat.zero_le _⟩ rfl (Nat.le_of_ble_eq_true rfl) ?_
        refine r_if_eq C 52 dX11_alone_46 (by decide)  (fun h25 => ?_) (fun h25 => ?_)
        · have hF := if_t h25 hF
          refine r_aload_n C 0 0 dX11_alone_52 rfl rfl ?_
          refine r_iload_n C 1 1 dX11_alone_53 rfl rfl ?_
          refine r_iload_n C 2 2 dX11_alone_54 rfl rfl ?_
          refine r_iload_n C 3 3 dX11_alone_55 rfl rfl ?_
          obtain ⟨⟨⟩, σ14, e15, hF⟩ := bd_e hF
          refine r_callV_v (as := [vI a1, vI a2, vI a3]) (st := []) C dX11_alone_56 (s_X11_sets G l e15) rfl rfl rfl t_6_111 t_6_113 t_s_47 t_1_14 t_6_114 m_X11_sets ⟨Nat.le_of_ble_eq_true rfl, Nat.le_of_ble_eq_true rfl⟩ ⟨rfl, rfl⟩ ⟨Nat.zero_le _, Nat.zero_le _⟩ rfl (Nat.le_of_ble_eq_true rfl) ?_
          refine r_iconst (v := (0 : Int32)) C dX11_alone_59 rfl ?_
          refine r_istore (ls2 := [(6, vI (0 : Int32)), (0, vR (40, 0, 0)), (1, vI a1), (2, vI a2), (3, vI a3), (4, vI a4), (5, vI a5)]) C dX11_alone_60 (by decide) rfl ?_
          refine r_drop (ls2 := [(0, vR (40, 0, 0)), (4, vI a4), (5, vI a5), (6, vI (0 : Int32))]) [1, 5, 6, 0] rfl ?_
          refine l_X11_alone_62 C a4 a5 _ ?_ _ _ _ hF
          · intro  σ21 hF
            refine r_iload C 1 dX11_alone_88 rfl ?_
            refine r_if_ne C 100 dX11_alone_90 (by decide)  (fun h24 => ?_) (fun h24 => ?_)
            · have hF := if_f h24 hF
              refine r_iload C 1 dX11_alone_100 rfl ?_
              refine r_iconst (v := (1 : Int32)) C dX11_alone_102 rfl ?_
              refine r_icmp_ne C 113 dX11_alone_103 (by decide)  (fun h23 => ?_) (fun h23 => ?_)
              · have hF := if_f h23 hF
                refine r_iload C 1 dX11_alone_113 rfl ?_
                refine r_iconst (v := (2 : Int32)) C dX11_alone_115 rfl ?_
                refine r_icmp_ne C 126 dX11_alone_116 (by decide)  (fun h22 => ?_) (fun h22 => ?_)
                · have hF := if_f h22 hF
                  refine r_aload_n C 0 0 dX11_alone_126 rfl rfl ?_
                  refine r_getI (kf := 19) C dX11_alone_127 rfl rfl f_X11 (by decide) t_5_75 rfl ?_
                  exact r_ireturn C dX11_alone_130 (rt_e hF)
                · have hF := if_t h22 hF
                  refine r_aload_n C 0 0 dX11_alone_119 rfl rfl ?_
                  refine r_getI (kf := 18) C dX11_alone_120 rfl rfl f_X11 (by decide) t_5_74 rfl ?_
                  refine r_goto C 130 dX11_alone_123 (by decide) ?_
                  exact r_ireturn C dX11_alone_130 (rt_e hF)
              · have hF := if_t h23 hF
                refine r_aload_n C 0 0 dX11_alone_106 rfl rfl ?_
                refine r_getI (kf := 16) C dX11_alone_107 rfl rfl f_X11 (by decide) t_5_72 rfl ?_
                refine r_goto C 130 dX11_alone_110 (by decide) ?_
                exact r_ireturn C dX11_alone_130 (rt_e hF)
            · have hF := if_t h24 hF
              refine r_aload_n C 0 0 dX11_alone_93 rfl rfl ?_
              refine r_getI (kf := 15) C dX11_alone_94 rfl rfl f_X11 (by decide) t_5_71 rfl ?_
              refine r_goto C 130 dX11_alone_97 (by decide) ?_
              exact r_ireturn C dX11_alone_130 (rt_e hF)
        · have hF := if_f h25 hF
          refine r_bipush (v := (-2 : Int32)) C dX11_alone_49 rfl ?_
          exact r_ireturn C dX11_alone_51 (rt_e hF)
      · have hF := if_t h26 hF
        refine r_iconst (v := (-1 : Int32)) C dX11_alone_35 rfl ?_
        exact r_ireturn C dX11_alone_36 (rt_e hF)
def L_X11_reachOf_10 (c4 : Int32) : Nat → Int32 → St → Option (Int32 × St)
  | 0, _, _ => none
  | n + 1, v5, τ =>
  (if (400 : Int32) < v5 then some ((-4 : Int32), τ) else (if (τ.1 (40, 0, 0) 15) = c4 then (if (τ.1 (40, 0, 0) 18) = 0 then some (v5, τ) else (if (τ.1 (40, 0, 0) 18) = (2 : Int32) then some (v5, τ) else (if (τ.1 (40, 0, 0) 18) = 0 then bd (F_X11_oneActs v5 τ) fun _ σ7 => nam (v5 + (1 : Int32)) fun x9 => L_X11_reachOf_10 c4 n x9 σ7 else some ((-4 : Int32), τ)))) else (if (τ.1 (40, 0, 0) 18) = 0 then bd (F_X11_oneActs v5 τ) fun _ σ3 => nam (v5 + (1 : Int32)) fun x5 => L_X11_reachOf_10 c4 n x5 σ3 else some ((-4 : Int32), τ))))
def F_X11_reachOf (a1 : Int32) (a2 : Int32) (a3 : Int32) (a4 : Int32) (σ : St) : Option (Int32 × St) :=
  bd (F_X11_sets a1 a2 a3 σ) fun _ σ1 => L_X11_reachOf_10 a4 FU (0 : Int32) σ1 
set_option maxRecDepth 20000 in
set_option maxHeartbeats 4000000 in
theorem l_X11_reachOf_10 {G : Gx} {p : Program} {l : Launch} {e : Env} {s : State} {m : MethodId} {args : Array Value} {below : List Frame} {meth : Method} {c : Code} (C : Cx G p s m args meth c (some .int) 6 RX11 cX11_reachOf) (c4 : Int32) {σ' : St} {r : Int32} : ∀ (n : Nat) (v5 : Int32) (τ : St), L_X11_reachOf_10 c4 n v5 τ = some (r, σ') → Rt G p l e (lvl 4) s m args below meth c 0 0 (MQ below (va_Qi (fun a b => a = r ∧ b = σ') (Wd G) (AG G)) args s 0 0 (AG G)) 6 10 [(0, vR (40, 0, 0)), (4, vI c4), (5, vI v5)] [] τ := by
  intro n
  induction n with
  | zero => intro v5 τ hF; cases hF
  | succ n ih =>
    intro v5 τ hF
    unfold L_X11_reachOf_10 at hF
    refine r_iload C 2 dX11_reachOf_10 rfl ?_
    refine r_sipush (v := (400 : Int32)) C dX11_reachOf_12 rfl ?_
    refine r_icmp_gt C 67 dX11_reachOf_15 (by decide)  (fun h14 => ?_) (fun h14 => ?_)
    · have hF := if_t h14 hF
      refine r_bipush (v := (-4 : Int32)) C dX11_reachOf_67 rfl ?_
      exact r_ireturn C dX11_reachOf_69 (rt_e hF)
    · have hF := if_f h14 hF
      refine r_aload_n C 0 0 dX11_reachOf_18 rfl rfl ?_
      refine r_getI (kf := 15) C dX11_reachOf_19 rfl rfl f_X11 (by decide) t_5_71 rfl ?_
      refine r_iload C 1 dX11_reachOf_22 rfl ?_
      refine r_icmp_ne C 45 dX11_reachOf_24 (by decide)  (fun h13 => ?_) (fun h13 => ?_)
      · have hF := if_f h13 hF
        refine r_aload_n C 0 0 dX11_reachOf_45 rfl rfl ?_
        refine r_getI (kf := 18) C dX11_reachOf_46 rfl rfl f_X11 (by decide) t_5_74 rfl ?_
        refine r_if_eq C 55 dX11_reachOf_49 (by decide)  (fun h6 => ?_) (fun h6 => ?_)
        · have hF := if_t h6 hF
          refine r_aload_n C 0 0 dX11_reachOf_55 rfl rfl ?_
          refine r_iload C 2 dX11_reachOf_56 rfl ?_
          obtain ⟨⟨⟩, σ3, e4, hF⟩ := bd_e hF
          refine r_callV_v (as := [vI v5]) (st := []) C dX11_reachOf_58 (s_X11_oneActs G l e4) rfl rfl rfl t_6_115 t_6_117 t_s_48 t_1_14 t_6_118 m_X11_oneActs ⟨Nat.le_of_ble_eq_true rfl, Nat.le_of_ble_eq_true rfl⟩ ⟨rfl, rfl⟩ ⟨Nat.zero_le _, Nat.zero_le _⟩ rfl (Nat.le_of_ble_eq_true rfl) ?_
          obtain ⟨x5, ex5, hF⟩ := nam_e hF
          refine r_iinc (v := x5) (ls2 := [(5, vI x5), (0, vR (40, 0, 0)), (4, vI c4)]) C 2 dX11_reachOf_61 rfl ex5.symm (by decide) rfl ?_
          refine r_goto C 10 dX11_reachOf_64 (by decide) ?_
          refine r_drop (ls2 := [(0, vR (40, 0, 0)), (4, vI c4), (5, vI x5)]) [1, 2, 0] rfl ?_
          exact ih _ _ hF
        · have hF := if_f h6 hF
          refine r_bipush (v := (-4 : Int32)) C dX11_reachOf_52 rfl ?_
          exact r_ireturn C dX11_reachOf_54 (rt_e hF)
      · have hF := if_t h13 hF
        refine r_aload_n C 0 0 dX11_reachOf_27 rfl rfl ?_
        refine r_getI (kf := 18) C dX11_reachOf_28 rfl rfl f_X11 (by decide) t_5_74 rfl ?_
        refine r_if_eq C 42 dX11_reachOf_31 (by decide)  (fun h12 => ?_) (fun h12 => ?_)
        · have hF := if_t h12 hF
          refine r_iload C 2 dX11_reachOf_42 rfl ?_
          exact r_ireturn C dX11_reachOf_44 (rt_e hF)
        · have hF := if_f h12 hF
          refine r_aload_n C 0 0 dX11_reachOf_34 rfl rfl ?_
          refine r_getI (kf := 18) C dX11_reachOf_35 rfl rfl f_X11 (by decide) t_5_74 rfl ?_
          refine r_iconst (v := (2 : Int32)) C dX11_reachOf_38 rfl ?_
          refine r_icmp_ne C 45 dX11_reachOf_39 (by decide)  (fun h11 => ?_) (fun h11 => ?_)
          · have hF := if_f h11 hF
            refine r_aload_n C 0 0 dX11_reachOf_45 rfl rfl ?_
            refine r_getI (kf := 18) C dX11_reachOf_46 rfl rfl f_X11 (by decide) t_5_74 rfl ?_
            refine r_if_eq C 55 dX11_reachOf_49 (by decide)  (fun h10 => ?_) (fun h10 => ?_)
            · have hF := if_t h10 hF
              refine r_aload_n C 0 0 dX11_reachOf_55 rfl rfl ?_
              refine r_iload C 2 dX11_reachOf_56 rfl ?_
              obtain ⟨⟨⟩, σ7, e8, hF⟩ := bd_e hF
              refine r_callV_v (as := [vI v5]) (st := []) C dX11_reachOf_58 (s_X11_oneActs G l e8) rfl rfl rfl t_6_115 t_6_117 t_s_48 t_1_14 t_6_118 m_X11_oneActs ⟨Nat.le_of_ble_eq_true rfl, Nat.le_of_ble_eq_true rfl⟩ ⟨rfl, rfl⟩ ⟨Nat.zero_le _, Nat.zero_le _⟩ rfl (Nat.le_of_ble_eq_true rfl) ?_
              obtain ⟨x9, ex9, hF⟩ := nam_e hF
              refine r_iinc (v := x9) (ls2 := [(5, vI x9), (0, vR (40, 0, 0)), (4, vI c4)]) C 2 dX11_reachOf_61 rfl ex9.symm (by decide) rfl ?_
              refine r_goto C 10 dX11_reachOf_64 (by decide) ?_
              refine r_drop (ls2 := [(0, vR (40, 0, 0)), (4, vI c4), (5, vI x9)]) [1, 2, 0] rfl ?_
              exact ih _ _ hF
            · have hF := if_f h10 hF
              refine r_bipush (v := (-4 : Int32)) C dX11_reachOf_52 rfl ?_
              exact r_ireturn C dX11_reachOf_54 (rt_e hF)
          · have hF := if_t h11 hF
            refine r_iload C 2 dX11_reachOf_42 rfl ?_
            exact r_ireturn C dX11_reachOf_44 (rt_e hF)
set_option maxRecDepth 20000 in
set_option maxHeartbeats 4000000 in
theorem s_X11_reachOf (G : Gx) (l : Launch) {a1 : Int32} {a2 : Int32} {a3 : Int32} {a4 : Int32} {σ σ' : St} {r : Int32} (hF : F_X11_reachOf a1 a2 a3 a4 σ = some (r, σ')) : Sp G l yX11_reachOf cX11_reachOf 6 (some .int) (lvl 4) [vR (40, 0, 0), vI a1, vI a2, vI a3, vI a4] σ (va_Qi (fun a b => a = r ∧ b = σ') (Wd G) (AG G)) := by
  refine Sp_of (own := RX11) (by decide) rfl (Nat.le_of_ble_eq_true rfl) ?_
  intro p e s m args below meth c C
  show Rt G p l e (lvl 4) s m args below meth c 0 0 (MQ below (va_Qi (fun a b => a = r ∧ b = σ') (Wd G) (AG G)) args s 0 0 (AG G)) 6 0 [(0, vR (40, 0, 0)), (1, vI a1), (2, vI a2), (3, vI a3), (4, vI a4)] [] σ
  unfold F_X11_reachOf at hF
  refine r_aload_n C 0 0 dX11_reachOf_0 rfl rfl ?_
  refine r_iload_n C 1 1 dX11_reachOf_1 rfl rfl ?_
  refine r_iload_n C 2 2 dX11_reachOf_2 rfl rfl ?_
  refine r_iload_n C 3 3 dX11_reachOf_3 rfl rfl ?_
  obtain ⟨⟨⟩, σ1, e2, hF⟩ := bd_e hF
  refine r_callV_v (as := [vI a1, vI a2, vI a3]) (st := []) C dX11_reachOf_4 (s_X11_sets G l e2) rfl rfl rfl t_6_111 t_6_113 t_s_47 t_1_14 t_6_114 m_X11_sets ⟨Nat.le_of_ble_eq_true rfl, Nat.le_of_ble_eq_true rfl⟩ ⟨rfl, rfl⟩ ⟨Nat.zero_le _, Nat.zero_le _⟩ rfl (Nat.le_of_ble_eq_true rfl) ?_
  refine r_iconst (v := (0 : Int32)) C dX11_reachOf_7 rfl ?_
  refine r_istore (ls2 := [(5, vI (0 : Int32)), (0, vR (40, 0, 0)), (1, vI a1), (2, vI a2), (3, vI a3), (4, vI a4)]) C dX11_reachOf_8 (by decide) rfl ?_
  refine r_drop (ls2 := [(0, vR (40, 0, 0)), (4, vI a4), (5, vI (0 : Int32))]) [1, 5, 0] rfl ?_
  refine l_X11_reachOf_10 C a4  _ _ _ hF
def F_X11_reach (a1 : Int32) (a2 : Int32) (a3 : Int32) (a4 : Int32) (σ : St) : Option (Int32 × St) :=
  bd (F_X11_isDrop a1 a2 a3 σ) fun r2 σ1 => (if r2 = 0 then some ((-1 : Int32), σ1) else bd (F_X11_isCell a4 σ1) fun r5 σ4 => (if r5 = 0 then some ((-1 : Int32), σ4) else ck (inb a1 576) (bd (F_X11_isShut (σ4.1 (41, 0, 0) (a1.toNatClampNeg)) σ4) fun r9 σ8 => (if r9 = 0 then bd (F_X11_reachOf a1 a2 a3 a4 σ8) fun r12 σ11 => some (r12, σ11) else some ((-2 : Int32), σ8)))))
set_option maxRecDepth 20000 in
set_option maxHeartbeats 4000000 in
theorem s_X11_reach (G : Gx) (l : Launch) {a1 : Int32} {a2 : Int32} {a3 : Int32} {a4 : Int32} {σ σ' : St} {r : Int32} (hF : F_X11_reach a1 a2 a3 a4 σ = some (r, σ')) : Sp G l yX11_reach cX11_reach 5 (some .int) (lvl 5) [vR (40, 0, 0), vI a1, vI a2, vI a3, vI a4] σ (va_Qi (fun a b => a = r ∧ b = σ') (Wd G) (AG G)) := by
  refine Sp_of (own := RX11) (by decide) rfl (Nat.le_of_ble_eq_true rfl) ?_
  intro p e s m args below meth c C
  show Rt G p l e (lvl 5) s m args below meth c 0 0 (MQ below (va_Qi (fun a b => a = r ∧ b = σ') (Wd G) (AG G)) args s 0 0 (AG G)) 5 0 [(0, vR (40, 0, 0)), (1, vI a1), (2, vI a2), (3, vI a3), (4, vI a4)] [] σ
  unfold F_X11_reach at hF
  refine r_iload_n C 1 1 dX11_reach_0 rfl rfl ?_
  refine r_iload_n C 2 2 dX11_reach_1 rfl rfl ?_
  refine r_iload_n C 3 3 dX11_reach_2 rfl rfl ?_
  obtain ⟨r2, σ1, e3, hF⟩ := bd_e hF
  refine r_callS_i (as := [vI a1, vI a2, vI a3]) (st := []) C dX11_reach_3 (s_X11_isDrop G l e3) t_6_12 t_6_13 t_1_14 t_6_14 m_X11_isDrop ⟨Nat.le_of_ble_eq_true rfl, Nat.le_of_ble_eq_true rfl⟩ ⟨rfl, rfl⟩ ⟨Nat.zero_le _, Nat.zero_le _⟩ rfl (Nat.le_of_ble_eq_true rfl) ?_
  refine r_if_eq C 17 dX11_reach_6 (by decide)  (fun h16 => ?_) (fun h16 => ?_)
  · have hF := if_t h16 hF
    refine r_iconst (v := (-1 : Int32)) C dX11_reach_17 rfl ?_
    exact r_ireturn C dX11_reach_18 (rt_e hF)
  · have hF := if_f h16 hF
    refine r_iload C 4 dX11_reach_9 rfl ?_
    obtain ⟨r5, σ4, e6, hF⟩ := bd_e hF
    refine r_callS_i (as := [vI a4]) (st := []) C dX11_reach_11 (s_X11_isCell G l e6) t_5_223 t_5_224 t_1_14 t_5_225 m_X11_isCell ⟨Nat.le_of_ble_eq_true rfl, Nat.le_of_ble_eq_true rfl⟩ ⟨rfl, rfl⟩ ⟨Nat.zero_le _, Nat.zero_le _⟩ rfl (Nat.le_of_ble_eq_true rfl) ?_
    refine r_if_ne C 19 dX11_reach_14 (by decide)  (fun h15 => ?_) (fun h15 => ?_)
    · have hF := if_f h15 hF
      refine r_aload_n C 0 0 dX11_reach_19 rfl rfl ?_
      refine r_getR (kf := 0) (d2 := (41, 0, 0)) C dX11_reach_20 rfl rfl f_X11 (by decide) t_5_56 rfl rfl ?_
      refine r_iload_n C 1 1 dX11_reach_23 rfl rfl ?_
      obtain ⟨h7, hF⟩ := ck_e hF
      refine r_iaload C (a1.toNatClampNeg) dX11_reach_24 rfl h7 rfl ?_
      obtain ⟨r9, σ8, e10, hF⟩ := bd_e hF
      refine r_callS_i (as := [vI (σ4.1 (41, 0, 0) (a1.toNatClampNeg))]) (st := []) C dX11_reach_25 (s_X11_isShut G l e10) t_5_232 t_5_233 t_1_14 t_5_234 m_X11_isShut ⟨Nat.le_of_ble_eq_true rfl, Nat.le_of_ble_eq_true rfl⟩ ⟨rfl, rfl⟩ ⟨Nat.zero_le _, Nat.zero_le _⟩ rfl (Nat.le_of_ble_eq_true rfl) ?_
      refine r_if_eq C 36 dX11_reach_28 (by decide)  (fun h14 => ?_) (fun h14 => ?_)
      · have hF := if_t h14 hF
        refine r_aload_n C 0 0 dX11_reach_36 rfl rfl ?_
        refine r_iload_n C 1 1 dX11_reach_37 rfl rfl ?_
        refine r_iload_n C 2 2 dX11_reach_38 rfl rfl ?_
        refine r_iload_n C 3 3 dX11_reach_39 rfl rfl ?_
        refine r_iload C 4 dX11_reach_40 rfl ?_
        obtain ⟨r12, σ11, e13, hF⟩ := bd_e hF
        refine r_callV_i (as := [vI a1, vI a2, vI a3, vI a4]) (st := []) C dX11_reach_42 (s_X11_reachOf G l e13) rfl rfl rfl t_6_131 t_6_133 t_s_51 t_1_14 t_6_134 m_X11_reachOf ⟨Nat.le_of_ble_eq_true rfl, Nat.le_of_ble_eq_true rfl⟩ ⟨rfl, rfl⟩ ⟨Nat.zero_le _, Nat.zero_le _⟩ rfl (Nat.le_of_ble_eq_true rfl) ?_
        exact r_ireturn C dX11_reach_45 (rt_e hF)
      · have hF := if_f h14 hF
        refine r_bipush (v := (-2 : Int32)) C dX11_reach_31 rfl ?_
        refine r_goto C 45 dX11_reach_33 (by decide) ?_
        exact r_ireturn C dX11_reach_45 (rt_e hF)
    · have hF := if_t h15 hF
      refine r_iconst (v := (-1 : Int32)) C dX11_reach_17 rfl ?_
      exact r_ireturn C dX11_reach_18 (rt_e hF)
def L_X11_along_3 (c1 : Int32) (c2 : Int32) (c3 : Int32) : Nat → Int32 → St → (St → Option (Int32 × St)) → Option (Int32 × St)
  | 0, _, _, _ => none
  | n + 1, v4, τ, kx25 =>
  (if (384 : Int32) ≤ v4 then kx25  τ else ck (inb v4 384) (nam (uI τ (48, 0, 0) (v4.toNatClampNeg) (0 : Int32)) fun σ2 => nam (v4 + (1 : Int32)) fun x3 => L_X11_along_3 c1 c2 c3 n x3 σ2 kx25))
def L_X11_along_35  : Nat → Int32 → St → Option (Int32 × St)
  | 0, _, _ => none
  | n + 1, v4, τ =>
  (if (τ.1 (40, 0, 0) 18) = 0 then ck (inb (((4 : Int32) * (τ.1 (40, 0, 0) 15)) + (τ.1 (40, 0, 0) 17)) 384) ((if (τ.1 (48, 0, 0) ((((4 : Int32) * (τ.1 (40, 0, 0) 15)) + (τ.1 (40, 0, 0) 17)).toNatClampNeg)) = 0 then nam (v4 + (1 : Int32)) fun x9 => ck (inb (((4 : Int32) * (τ.1 (40, 0, 0) 15)) + (τ.1 (40, 0, 0) 17)) 384) (nam (uI τ (48, 0, 0) ((((4 : Int32) * (τ.1 (40, 0, 0) 15)) + (τ.1 (40, 0, 0) 17)).toNatClampNeg) x9) fun σ11 => bd (F_X11_oneGoes x9 σ11) fun _ σ12 => L_X11_along_35 n x9 σ12) else some (v4, τ))) else some (v4, τ))
def F_X11_along (a1 : Int32) (a2 : Int32) (a3 : Int32) (σ : St) : Option (Int32 × St) :=
  L_X11_along_3 a1 a2 a3 FU (0 : Int32) σ (fun  (σ5 : St) => bd (F_X11_sets a1 a2 a3 σ5) fun _ σ6 => L_X11_along_35  FU (0 : Int32) σ6 )
set_option maxRecDepth 20000 in
set_option maxHeartbeats 4000000 in
theorem l_X11_along_3 {G : Gx} {p : Program} {l : Launch} {e : Env} {s : State} {m : MethodId} {args : Array Value} {below : List Frame} {meth : Method} {c : Code} (C : Cx G p s m args meth c (some .int) 5 RX11 cX11_along) (c1 : Int32) (c2 : Int32) (c3 : Int32) {σ' : St} {r : Int32} (kx25 : St → Option (Int32 × St)) (hkx25 : ∀  (τ : St), kx25  τ = some (r, σ') → Rt G p l e (lvl 3) s m args below meth c 0 0 (MQ below (va_Qi (fun a b => a = r ∧ b = σ') (Wd G) (AG G)) args s 0 0 (AG G)) 5 25 [(0, vR (40, 0, 0)), (1, vI c1), (2, vI c2), (3, vI c3)] [] τ) : ∀ (n : Nat) (v4 : Int32) (τ : St), L_X11_along_3 c1 c2 c3 n v4 τ kx25 = some (r, σ') → Rt G p l e (lvl 3) s m args below meth c 0 0 (MQ below (va_Qi (fun a b => a = r ∧ b = σ') (Wd G) (AG G)) args s 0 0 (AG G)) 5 3 [(0, vR (40, 0, 0)), (1, vI c1), (2, vI c2), (3, vI c3), (4, vI v4)] [] τ := by
  intro n
  induction n with
  | zero => intro v4 τ hF; cases hF
  | succ n ih =>
    intro v4 τ hF
    unfold L_X11_along_3 at hF
    refine r_iload C 4 dX11_along_3 rfl ?_
    refine r_sipush (v := (384 : Int32)) C dX11_along_5 rfl ?_
    refine r_icmp_ge C 25 dX11_along_8 (by decide)  (fun h4 => ?_) (fun h4 => ?_)
    · have hF := if_t h4 hF
      refine r_drop (ls2 := [(0, vR (40, 0, 0)), (1, vI c1), (2, vI c2), (3, vI c3)]) [0, 1, 2, 3] rfl ?_
      exact hkx25 _ hF
    · have hF := if_f h4 hF
      refine r_aload_n C 0 0 dX11_along_11 rfl rfl ?_
      refine r_getR (kf := 20) (d2 := (48, 0, 0)) C dX11_along_12 rfl rfl f_X11 (by decide) t_5_76 rfl rfl ?_
      refine r_iload C 4 dX11_along_15 rfl ?_
      refine r_iconst (v := (0 : Int32)) C dX11_along_17 rfl ?_
      obtain ⟨h1, hF⟩ := ck_e hF
      obtain ⟨σ2, eσ2, hF⟩ := nam_e hF
      refine r_iastore C (v4.toNatClampNeg) dX11_along_18 rfl h1 rfl eσ2 ?_
      obtain ⟨x3, ex3, hF⟩ := nam_e hF
      refine r_iinc (v := x3) (ls2 := [(4, vI x3), (0, vR (40, 0, 0)), (1, vI c1), (2, vI c2), (3, vI c3)]) C 4 dX11_along_19 rfl ex3.symm (by decide) rfl ?_
      refine r_goto C 3 dX11_along_22 (by decide) ?_
      refine r_drop (ls2 := [(0, vR (40, 0, 0)), (1, vI c1), (2, vI c2), (3, vI c3), (4, vI x3)]) [1, 2, 3, 4, 0] rfl ?_
      exact ih _ _ hF
set_option maxRecDepth 20000 in
set_option maxHeartbeats 4000000 in
theorem l_X11_along_35 {G : Gx} {p : Program} {l : Launch} {e : Env} {s : State} {m : MethodId} {args : Array Value} {below : List Frame} {meth : Method} {c : Code} (C : Cx G p s m args meth c (some .int) 5 RX11 cX11_along)  {σ' : St} {r : Int32} : ∀ (n : Nat) (v4 : Int32) (τ : St), L_X11_along_35  n v4 τ = some (r, σ') → Rt G p l e (lvl 3) s m args below meth c 0 0 (MQ below (va_Qi (fun a b => a = r ∧ b = σ') (Wd G) (AG G)) args s 0 0 (AG G)) 5 35 [(0, vR (40, 0, 0)), (4, vI v4)] [] τ := by
  intro n
  induction n with
  | zero => intro v4 τ hF; cases hF
  | succ n ih =>
    intro v4 τ hF
    unfold L_X11_along_35 at hF
    refine r_aload_n C 0 0 dX11_along_35 rfl rfl ?_
    refine r_getI (kf := 18) C dX11_along_36 rfl rfl f_X11 (by decide) t_5_74 rfl ?_
    refine r_if_ne C 91 dX11_along_39 (by decide)  (fun h15 => ?_) (fun h15 => ?_)
    · have hF := if_f h15 hF
      refine r_iload C 1 dX11_along_91 rfl ?_
      exact r_ireturn C dX11_along_93 (rt_e hF)
    · have hF := if_t h15 hF
      refine r_aload_n C 0 0 dX11_along_42 rfl rfl ?_
      refine r_getR (kf := 20) (d2 := (48, 0, 0)) C dX11_along_43 rfl rfl f_X11 (by decide) t_5_76 rfl rfl ?_
      refine r_iconst (v := (4 : Int32)) C dX11_along_46 rfl ?_
      refine r_aload_n C 0 0 dX11_along_47 rfl rfl ?_
      refine r_getI (kf := 15) C dX11_along_48 rfl rfl f_X11 (by decide) t_5_71 rfl ?_
      refine r_imul C dX11_along_51 ?_
      refine r_aload_n C 0 0 dX11_along_52 rfl rfl ?_
      refine r_getI (kf := 17) C dX11_along_53 rfl rfl f_X11 (by decide) t_5_73 rfl ?_
      refine r_iadd C dX11_along_56 ?_
      obtain ⟨h8, hF⟩ := ck_e hF
      refine r_iaload C ((((4 : Int32) * (τ.1 (40, 0, 0) 15)) + (τ.1 (40, 0, 0) 17)).toNatClampNeg) dX11_along_57 rfl h8 rfl ?_
      refine r_if_ne C 91 dX11_along_58 (by decide)  (fun h14 => ?_) (fun h14 => ?_)
      · have hF := if_f h14 hF
        refine r_iload C 1 dX11_along_91 rfl ?_
        exact r_ireturn C dX11_along_93 (rt_e hF)
      · have hF := if_t h14 hF
        obtain ⟨x9, ex9, hF⟩ := nam_e hF
        refine r_iinc (v := x9) (ls2 := [(4, vI x9), (0, vR (40, 0, 0))]) C 1 dX11_along_61 rfl ex9.symm (by decide) rfl ?_
        refine r_aload_n C 1 0 dX11_along_64 rfl rfl ?_
        refine r_getR (kf := 20) (d2 := (48, 0, 0)) C dX11_along_65 rfl rfl f_X11 (by decide) t_5_76 rfl rfl ?_
        refine r_iconst (v := (4 : Int32)) C dX11_along_68 rfl ?_
        refine r_aload_n C 1 0 dX11_along_69 rfl rfl ?_
        refine r_getI (kf := 15) C dX11_along_70 rfl rfl f_X11 (by decide) t_5_71 rfl ?_
        refine r_imul C dX11_along_73 ?_
        refine r_aload_n C 1 0 dX11_along_74 rfl rfl ?_
        refine r_getI (kf := 17) C dX11_along_75 rfl rfl f_X11 (by decide) t_5_73 rfl ?_
        refine r_iadd C dX11_along_78 ?_
        refine r_iload C 0 dX11_along_79 rfl ?_
        obtain ⟨h10, hF⟩ := ck_e hF
        obtain ⟨σ11, eσ11, hF⟩ := nam_e hF
        refine r_iastore C ((((4 : Int32) * (τ.1 (40, 0, 0) 15)) + (τ.1 (40, 0, 0) 17)).toNatClampNeg) dX11_along_81 rfl h10 rfl eσ11 ?_
        refine r_aload_n C 1 0 dX11_along_82 rfl rfl ?_
        refine r_iload C 0 dX11_along_83 rfl ?_
        obtain ⟨⟨⟩, σ12, e13, hF⟩ := bd_e hF
        refine r_callV_v (as := [vI x9]) (st := []) C dX11_along_85 (s_X11_oneGoes G l e13) rfl rfl rfl t_6_123 t_6_125 t_s_50 t_1_14 t_6_126 m_X11_oneGoes ⟨Nat.le_of_ble_eq_true rfl, Nat.le_of_ble_eq_true rfl⟩ ⟨rfl, rfl⟩ ⟨Nat.zero_le _, Nat.zero_le _⟩ rfl (Nat.le_of_ble_eq_true rfl) ?_
        refine r_goto C 35 dX11_along_88 (by decide) ?_
        refine r_drop (ls2 := [(0, vR (40, 0, 0)), (4, vI x9)]) [1, 0] rfl ?_
        exact ih _ _ hF
set_option maxRecDepth 20000 in
set_option maxHeartbeats 4000000 in
theorem s_X11_along (G : Gx) (l : Launch) {a1 : Int32} {a2 : Int32} {a3 : Int32} {σ σ' : St} {r : Int32} (hF : F_X11_along a1 a2 a3 σ = some (r, σ')) : Sp G l yX11_along cX11_along 5 (some .int) (lvl 3) [vR (40, 0, 0), vI a1, vI a2, vI a3] σ (va_Qi (fun a b => a = r ∧ b = σ') (Wd G) (AG G)) := by
  refine Sp_of (own := RX11) (by decide) rfl (Nat.le_of_ble_eq_true rfl) ?_
  intro p e s m args below meth c C
  show Rt G p l e (lvl 3) s m args below meth c 0 0 (MQ below (va_Qi (fun a b => a = r ∧ b = σ') (Wd G) (AG G)) args s 0 0 (AG G)) 5 0 [(0, vR (40, 0, 0)), (1, vI a1), (2, vI a2), (3, vI a3)] [] σ
  unfold F_X11_along at hF
  refine r_iconst (v := (0 : Int32)) C dX11_along_0 rfl ?_
  refine r_istore (ls2 := [(4, vI (0 : Int32)), (0, vR (40, 0, 0)), (1, vI a1), (2, vI a2), (3, vI a3)]) C dX11_along_1 (by decide) rfl ?_
  refine r_drop (ls2 := [(0, vR (40, 0, 0)), (1, vI a1), (2, vI a2), (3, vI a3), (4, vI (0 : Int32))]) [1, 2, 3, 4, 0] rfl ?_
  refine l_X11_along_3 C a1 a2 a3 _ ?_ _ _ _ hF
  · intro  σ5 hF
    refine r_aload_n C 0 0 dX11_along_25 rfl rfl ?_
    refine r_iload_n C 1 1 dX11_along_26 rfl rfl ?_
    refine r_iload_n C 2 2 dX11_along_27 rfl rfl ?_
    refine r_iload_n C 3 3 dX11_along_28 rfl rfl ?_
    obtain ⟨⟨⟩, σ6, e7, hF⟩ := bd_e hF
    refine r_callV_v (as := [vI a1, vI a2, vI a3]) (st := []) C dX11_along_29 (s_X11_sets G l e7) rfl rfl rfl t_6_111 t_6_113 t_s_47 t_1_14 t_6_114 m_X11_sets ⟨Nat.le_of_ble_eq_true rfl, Nat.le_of_ble_eq_true rfl⟩ ⟨rfl, rfl⟩ ⟨Nat.zero_le _, Nat.zero_le _⟩ rfl (Nat.le_of_ble_eq_true rfl) ?_
    refine r_iconst (v := (0 : Int32)) C dX11_along_32 rfl ?_
    refine r_istore (ls2 := [(4, vI (0 : Int32)), (0, vR (40, 0, 0)), (1, vI a1), (2, vI a2), (3, vI a3)]) C dX11_along_33 (by decide) rfl ?_
    refine r_drop (ls2 := [(0, vR (40, 0, 0)), (4, vI (0 : Int32))]) [1, 0] rfl ?_
    refine l_X11_along_35 C   _ _ _ hF
def L_X11_ring_95 (c4 : Int32) (c5 : Int32) (c6 : Int32) (c7 : Int32) (c8 : Int32) : Nat → Int32 → Int32 → St → (Int32 → St → Option (Int32 × St)) → Option (Int32 × St)
  | 0, _, _, _, _ => none
  | n + 1, v9, v10, τ, kx136 =>
  (if (4 : Int32) ≤ v10 then kx136 v9 τ else nam (fun (y16 : Int32) (σ18 : St) => nam (v10 + (1 : Int32)) fun x19 => L_X11_ring_95 c4 c5 c6 c7 c8 n y16 x19 σ18 kx136) fun k17 => (if v9 = 0 then ck (inb (((4 : Int32) * c8) + v10) 384) ((if (τ.1 (48, 0, 0) ((((4 : Int32) * c8) + v10).toNatClampNeg)) < c6 then k17 (0 : Int32) τ else k17 (1 : Int32) τ)) else k17 (1 : Int32) τ))
def L_X11_ring_82 (c4 : Int32) (c5 : Int32) (c6 : Int32) : Nat → Int32 → Int32 → St → (Int32 → St → Option (Int32 × St)) → Option (Int32 × St)
  | 0, _, _, _, _ => none
  | n + 1, v7, v8, τ, kx152 =>
  (if (96 : Int32) ≤ v8 then kx152 v7 τ else L_X11_ring_95 c4 c5 c6 v7 v8 FU (0 : Int32) (0 : Int32) τ (fun (y25 : Int32) (σ24 : St) => bd (F_X11_flag y25 σ24) fun r27 σ26 => nam (v7 + r27) fun x29 => nam (v8 + (1 : Int32)) fun x30 => L_X11_ring_82 c4 c5 c6 n x29 x30 σ26 kx152))
def F_X11_ring (a1 : Int32) (a2 : Int32) (a3 : Int32) (a4 : Int32) (σ : St) : Option (Int32 × St) :=
  bd (F_X11_isDrop a1 a2 a3 σ) fun r2 σ1 => (if r2 = 0 then some ((-1 : Int32), σ1) else bd (F_X11_in (a4.toInt64) (0 : Int64) (2 : Int64) σ1) fun r5 σ4 => (if r5 = 0 then some ((-1 : Int32), σ4) else ck (inb a1 576) (bd (F_X11_isShut (σ4.1 (41, 0, 0) (a1.toNatClampNeg)) σ4) fun r9 σ8 => (if r9 = 0 then bd (F_X11_along a1 a2 a3 σ8) fun r12 σ11 => (if (σ11.1 (40, 0, 0) 18) = 0 then ck (inb (((4 : Int32) * (σ11.1 (40, 0, 0) 15)) + (σ11.1 (40, 0, 0) 17)) 384) (nam (σ11.1 (48, 0, 0) ((((4 : Int32) * (σ11.1 (40, 0, 0) 15)) + (σ11.1 (40, 0, 0) 17)).toNatClampNeg)) fun x15 => L_X11_ring_82 a4 r12 x15 FU (0 : Int32) (0 : Int32) σ11 (fun (y33 : Int32) (σ32 : St) => (if a4 = 0 then some (x15 - (1 : Int32), σ32) else (if a4 = (1 : Int32) then some ((r12 - x15) + (1 : Int32), σ32) else some (y33, σ32))))) else some ((-4 : Int32), σ11)) else some ((-2 : Int32), σ8)))))
set_option maxRecDepth 20000 in
set_option maxHeartbeats 4000000 in
theorem l_X11_ring_95 {G : Gx} {p : Program} {l : Launch} {e : Env} {s : State} {m : MethodId} {args : Array Value} {below : List Frame} {meth : Method} {c : Code} (C : Cx G p s m args meth c (some .int) 11 RX11 cX11_ring) (c4 : Int32) (c5 : Int32) (c6 : Int32) (c7 : Int32) (c8 : Int32) {σ' : St} {r : Int32} (kx136 : Int32 → St → Option (Int32 × St)) (hkx136 : ∀ (w9 : Int32) (τ : St), kx136 w9 τ = some (r, σ') → Rt G p l e (lvl 4) s m args below meth c 0 0 (MQ below (va_Qi (fun a b => a = r ∧ b = σ') (Wd G) (AG G)) args s 0 0 (AG G)) 11 136 [(0, vR (40, 0, 0)), (4, vI c4), (5, vI c5), (6, vI c6), (7, vI c7), (8, vI c8), (9, vI w9)] [] τ) : ∀ (n : Nat) (v9 : Int32) (v10 : Int32) (τ : St), L_X11_ring_95 c4 c5 c6 c7 c8 n v9 v10 τ kx136 = some (r, σ') → Rt G p l e (lvl 4) s m args below meth c 0 0 (MQ below (va_Qi (fun a b => a = r ∧ b = σ') (Wd G) (AG G)) args s 0 0 (AG G)) 11 95 [(0, vR (40, 0, 0)), (4, vI c4), (5, vI c5), (6, vI c6), (7, vI c7), (8, vI c8), (9, vI v9), (10, vI v10)] [] τ := by
  intro n
  induction n with
  | zero => intro v9 v10 τ hF; cases hF
  | succ n ih =>
    intro v9 v10 τ hF
    unfold L_X11_ring_95 at hF
    refine r_iload C 7 dX11_ring_95 rfl ?_
    refine r_iconst (v := (4 : Int32)) C dX11_ring_97 rfl ?_
    refine r_icmp_ge C 136 dX11_ring_98 (by decide)  (fun h23 => ?_) (fun h23 => ?_)
    · have hF := if_t h23 hF
      refine r_drop (ls2 := [(0, vR (40, 0, 0)), (4, vI c4), (5, vI c5), (6, vI c6), (7, vI c7), (8, vI c8), (9, vI v9)]) [0, 1, 2, 3, 4, 5, 6] rfl ?_
      exact hkx136 _ _ hF
    · have hF := if_f h23 hF
      refine r_iload C 6 dX11_ring_101 rfl ?_
      obtain ⟨k17, ek17, hF⟩ := nam_e hF
      have hk17 : ∀ (y16 : Int32) (σ18 : St), k17 y16 σ18 = some (r, σ') → Rt G p l e (lvl 4) s m args below meth c 0 0 (MQ below (va_Qi (fun a b => a = r ∧ b = σ') (Wd G) (AG G)) args s 0 0 (AG G)) 11 128 [(0, vR (40, 0, 0)), (4, vI c4), (5, vI c5), (6, vI c6), (7, vI c7), (8, vI c8), (10, vI v10)] [vI y16] σ18 := by
        intro y16 σ18 hF
        subst ek17
        refine r_istore (ls2 := [(9, vI y16), (0, vR (40, 0, 0)), (4, vI c4), (5, vI c5), (6, vI c6), (7, vI c7), (8, vI c8), (10, vI v10)]) C dX11_ring_128 (by decide) rfl ?_
        obtain ⟨x19, ex19, hF⟩ := nam_e hF
        refine r_iinc (v := x19) (ls2 := [(10, vI x19), (9, vI y16), (0, vR (40, 0, 0)), (4, vI c4), (5, vI c5), (6, vI c6), (7, vI c7), (8, vI c8)]) C 7 dX11_ring_130 rfl ex19.symm (by decide) rfl ?_
        refine r_goto C 95 dX11_ring_133 (by decide) ?_
        refine r_drop (ls2 := [(0, vR (40, 0, 0)), (4, vI c4), (5, vI c5), (6, vI c6), (7, vI c7), (8, vI c8), (9, vI y16), (10, vI x19)]) [2, 3, 4, 5, 6, 7, 1, 0] rfl ?_
        exact ih _ _ _ hF
      refine r_if_ne C 123 dX11_ring_103 (by decide)  (fun h22 => ?_) (fun h22 => ?_)
      · have hF := if_f h22 hF
        refine r_iconst (v := (1 : Int32)) C dX11_ring_123 rfl ?_
        refine r_goto C 128 dX11_ring_124 (by decide) ?_
        refine r_drop (ls2 := [(0, vR (40, 0, 0)), (4, vI c4), (5, vI c5), (6, vI c6), (7, vI c7), (8, vI c8), (10, vI v10)]) [0, 1, 2, 3, 4, 5, 7] rfl ?_
        exact hk17 _ _ hF
      · have hF := if_t h22 hF
        refine r_aload_n C 0 0 dX11_ring_106 rfl rfl ?_
        refine r_getR (kf := 20) (d2 := (48, 0, 0)) C dX11_ring_107 rfl rfl f_X11 (by decide) t_5_76 rfl rfl ?_
        refine r_iconst (v := (4 : Int32)) C dX11_ring_110 rfl ?_
        refine r_iload C 5 dX11_ring_111 rfl ?_
        refine r_imul C dX11_ring_113 ?_
        refine r_iload C 7 dX11_ring_114 rfl ?_
        refine r_iadd C dX11_ring_116 ?_
        obtain ⟨h20, hF⟩ := ck_e hF
        refine r_iaload C ((((4 : Int32) * c8) + v10).toNatClampNeg) dX11_ring_117 rfl h20 rfl ?_
        refine r_iload C 3 dX11_ring_118 rfl ?_
        refine r_icmp_lt C 127 dX11_ring_120 (by decide)  (fun h21 => ?_) (fun h21 => ?_)
        · have hF := if_t h21 hF
          refine r_iconst (v := (0 : Int32)) C dX11_ring_127 rfl ?_
          refine r_drop (ls2 := [(0, vR (40, 0, 0)), (4, vI c4), (5, vI c5), (6, vI c6), (7, vI c7), (8, vI c8), (10, vI v10)]) [0, 1, 2, 3, 4, 5, 7] rfl ?_
          exact hk17 _ _ hF
        · have hF := if_f h21 hF
          refine r_iconst (v := (1 : Int32)) C dX11_ring_123 rfl ?_
          refine r_goto C 128 dX11_ring_124 (by decide) ?_
          refine r_drop (ls2 := [(0, vR (40, 0, 0)), (4, vI c4), (5, vI c5), (6, vI c6), (7, vI c7), (8, vI c8), (10, vI v10)]) [0, 1, 2, 3, 4, 5, 7] rfl ?_
          exact hk17 _ _ hF
set_option maxRecDepth 20000 in
set_option maxHeartbeats 4000000 in
theorem l_X11_ring_82 {G : Gx} {p : Program} {l : Launch} {e : Env} {s : State} {m : MethodId} {args : Array Value} {below : List Frame} {meth : Method} {c : Code} (C : Cx G p s m args meth c (some .int) 11 RX11 cX11_ring) (c4 : Int32) (c5 : Int32) (c6 : Int32) {σ' : St} {r : Int32} (kx152 : Int32 → St → Option (Int32 × St)) (hkx152 : ∀ (w7 : Int32) (τ : St), kx152 w7 τ = some (r, σ') → Rt G p l e (lvl 4) s m args below meth c 0 0 (MQ below (va_Qi (fun a b => a = r ∧ b = σ') (Wd G) (AG G)) args s 0 0 (AG G)) 11 152 [(4, vI c4), (5, vI c5), (6, vI c6), (7, vI w7)] [] τ) : ∀ (n : Nat) (v7 : Int32) (v8 : Int32) (τ : St), L_X11_ring_82 c4 c5 c6 n v7 v8 τ kx152 = some (r, σ') → Rt G p l e (lvl 4) s m args below meth c 0 0 (MQ below (va_Qi (fun a b => a = r ∧ b = σ') (Wd G) (AG G)) args s 0 0 (AG G)) 11 82 [(0, vR (40, 0, 0)), (4, vI c4), (5, vI c5), (6, vI c6), (7, vI v7), (8, vI v8)] [] τ := by
  intro n
  induction n with
  | zero => intro v7 v8 τ hF; cases hF
  | succ n ih =>
    intro v7 v8 τ hF
    unfold L_X11_ring_82 at hF
    refine r_iload C 5 dX11_ring_82 rfl ?_
    refine r_bipush (v := (96 : Int32)) C dX11_ring_84 rfl ?_
    refine r_icmp_ge C 152 dX11_ring_86 (by decide)  (fun h31 => ?_) (fun h31 => ?_)
    · have hF := if_t h31 hF
      refine r_drop (ls2 := [(4, vI c4), (5, vI c5), (6, vI c6), (7, vI v7)]) [1, 2, 3, 4] rfl ?_
      exact hkx152 _ _ hF
    · have hF := if_f h31 hF
      refine r_iconst (v := (0 : Int32)) C dX11_ring_89 rfl ?_
      refine r_istore (ls2 := [(9, vI (0 : Int32)), (0, vR (40, 0, 0)), (4, vI c4), (5, vI c5), (6, vI c6), (7, vI v7), (8, vI v8)]) C dX11_ring_90 (by decide) rfl ?_
      refine r_iconst (v := (0 : Int32)) C dX11_ring_92 rfl ?_
      refine r_istore (ls2 := [(10, vI (0 : Int32)), (9, vI (0 : Int32)), (0, vR (40, 0, 0)), (4, vI c4), (5, vI c5), (6, vI c6), (7, vI v7), (8, vI v8)]) C dX11_ring_93 (by decide) rfl ?_
      refine r_drop (ls2 := [(0, vR (40, 0, 0)), (4, vI c4), (5, vI c5), (6, vI c6), (7, vI v7), (8, vI v8), (9, vI (0 : Int32)), (10, vI (0 : Int32))]) [2, 3, 4, 5, 6, 7, 1, 0] rfl ?_
      refine l_X11_ring_95 C c4 c5 c6 v7 v8 _ ?_ _ _ _ _ hF
      · intro y25 σ24 hF
        refine r_iload C 4 dX11_ring_136 rfl ?_
        refine r_iload C 6 dX11_ring_138 rfl ?_
        obtain ⟨r27, σ26, e28, hF⟩ := bd_e hF
        refine r_callS_i (as := [vI y25]) (st := [vI v7]) C dX11_ring_140 (s_X11_flag G l e28) t_5_195 t_5_196 t_1_14 t_5_197 m_X11_flag ⟨Nat.le_of_ble_eq_true rfl, Nat.le_of_ble_eq_true rfl⟩ ⟨rfl, rfl⟩ ⟨Nat.zero_le _, Nat.zero_le _⟩ rfl (Nat.le_of_ble_eq_true rfl) ?_
        refine r_iadd C dX11_ring_143 ?_
        obtain ⟨x29, ex29, hF⟩ := nam_e hF
        refine r_topI ex29 ?_
        refine r_istore (ls2 := [(7, vI x29), (0, vR (40, 0, 0)), (4, vI c4), (5, vI c5), (6, vI c6), (8, vI v8), (9, vI y25)]) C dX11_ring_144 (by decide) rfl ?_
        obtain ⟨x30, ex30, hF⟩ := nam_e hF
        refine r_iinc (v := x30) (ls2 := [(8, vI x30), (7, vI x29), (0, vR (40, 0, 0)), (4, vI c4), (5, vI c5), (6, vI c6), (9, vI y25)]) C 5 dX11_ring_146 rfl ex30.symm (by decide) rfl ?_
        refine r_goto C 82 dX11_ring_149 (by decide) ?_
        refine r_drop (ls2 := [(0, vR (40, 0, 0)), (4, vI c4), (5, vI c5), (6, vI c6), (7, vI x29), (8, vI x30)]) [2, 3, 4, 5, 1, 0] rfl ?_
        exact ih _ _ _ hF
set_option maxRecDepth 20000 in
set_option maxHeartbeats 4000000 in
theorem s_X11_ring (G : Gx) (l : Launch) {a1 : Int32} {a2 : Int32} {a3 : Int32} {a4 : Int32} {σ σ' : St} {r : Int32} (hF : F_X11_ring a1 a2 a3 a4 σ = some (r, σ')) : Sp G l yX11_ring cX11_ring 11 (some .int) (lvl 4) [vR (40, 0, 0), vI a1, vI a2, vI a3, vI a4] σ (va_Qi (fun a b => a = r ∧ b = σ') (Wd G) (AG G)) := by
  refine Sp_of (own := RX11) (by decide) rfl (Nat.le_of_ble_eq_true rfl) ?_
  intro p e s m args below meth c C
  show Rt G p l e (lvl 4) s m args below meth c 0 0 (MQ below (va_Qi (fun a b => a = r ∧ b = σ') (Wd G) (AG G)) args s 0 0 (AG G)) 11 0 [(0, vR (40, 0, 0)), (1, vI a1), (2, vI a2), (3, vI a3), (4, vI a4)] [] σ
  unfold F_X11_ring at hF
  refine r_iload_n C 1 1 dX11_ring_0 rfl rfl ?_
  refine r_iload_n C 2 2 dX11_ring_1 rfl rfl ?_
  refine r_iload_n C 3 3 dX11_ring_2 rfl rfl ?_
  obtain ⟨r2, σ1, e3, hF⟩ := bd_e hF
  refine r_callS_i (as := [vI a1, vI a2, vI a3]) (st := []) C dX11_ring_3 (s_X11_isDrop G l e3) t_6_12 t_6_13 t_1_14 t_6_14 m_X11_isDrop ⟨Nat.le_of_ble_eq_true rfl, Nat.le_of_ble_eq_true rfl⟩ ⟨rfl, rfl⟩ ⟨Nat.zero_le _, Nat.zero_le _⟩ rfl (Nat.le_of_ble_eq_true rfl) ?_
  refine r_if_eq C 22 dX11_ring_6 (by decide)  (fun h39 => ?_) (fun h39 => ?_)
  · have hF := if_t h39 hF
    refine r_iconst (v := (-1 : Int32)) C dX11_ring_22 rfl ?_
    exact r_ireturn C dX11_ring_23 (rt_e hF)
  · have hF := if_f h39 hF
    refine r_iload C 4 dX11_ring_9 rfl ?_
    refine r_i2l C dX11_ring_11 ?_
    refine r_lconst (v := (0 : Int64)) C dX11_ring_12 rfl ?_
    refine r_ldc2_w (v := (2 : Int64)) C dX11_ring_13 t_6_139 ?_
    obtain ⟨r5, σ4, e6, hF⟩ := bd_e hF
    refine r_callS_i (as := [vL (a4.toInt64), vL (0 : Int64), vL (2 : Int64)]) (st := []) C dX11_ring_16 (s_X11_in G l e6) t_5_153 t_5_154 t_1_14 t_5_155 m_X11_in ⟨Nat.le_of_ble_eq_true rfl, Nat.le_of_ble_eq_true rfl⟩ ⟨rfl, rfl⟩ ⟨Nat.zero_le _, Nat.zero_le _⟩ rfl (Nat.le_of_ble_eq_true rfl) ?_
    refine r_if_ne C 24 dX11_ring_19 (by decide)  (fun h38 => ?_) (fun h38 => ?_)
    · have hF := if_f h38 hF
      refine r_aload_n C 0 0 dX11_ring_24 rfl rfl ?_
      refine r_getR (kf := 0) (d2 := (41, 0, 0)) C dX11_ring_25 rfl rfl f_X11 (by decide) t_5_56 rfl rfl ?_
      refine r_iload_n C 1 1 dX11_ring_28 rfl rfl ?_
      obtain ⟨h7, hF⟩ := ck_e hF
      refine r_iaload C (a1.toNatClampNeg) dX11_ring_29 rfl h7 rfl ?_
      obtain ⟨r9, σ8, e10, hF⟩ := bd_e hF
      refine r_callS_i (as := [vI (σ4.1 (41, 0, 0) (a1.toNatClampNeg))]) (st := []) C dX11_ring_30 (s_X11_isShut G l e10) t_5_232 t_5_233 t_1_14 t_5_234 m_X11_isShut ⟨Nat.le_of_ble_eq_true rfl, Nat.le_of_ble_eq_true rfl⟩ ⟨rfl, rfl⟩ ⟨Nat.zero_le _, Nat.zero_le _⟩ rfl (Nat.le_of_ble_eq_true rfl) ?_
      refine r_if_eq C 39 dX11_ring_33 (by decide)  (fun h37 => ?_) (fun h37 => ?_)
      · have hF := if_t h37 hF
        refine r_aload_n C 0 0 dX11_ring_39 rfl rfl ?_
        refine r_iload_n C 1 1 dX11_ring_40 rfl rfl ?_
        refine r_iload_n C 2 2 dX11_ring_41 rfl rfl ?_
        refine r_iload_n C 3 3 dX11_ring_42 rfl rfl ?_
        obtain ⟨r12, σ11, e13, hF⟩ := bd_e hF
        refine r_callV_i (as := [vI a1, vI a2, vI a3]) (st := []) C dX11_ring_43 (s_X11_along G l e13) rfl rfl rfl t_6_140 t_6_142 t_s_52 t_1_14 t_6_143 m_X11_along ⟨Nat.le_of_ble_eq_true rfl, Nat.le_of_ble_eq_true rfl⟩ ⟨rfl, rfl⟩ ⟨Nat.zero_le _, Nat.zero_le _⟩ rfl (Nat.le_of_ble_eq_true rfl) ?_
        refine r_istore (ls2 := [(5, vI r12), (0, vR (40, 0, 0)), (1, vI a1), (2, vI a2), (3, vI a3), (4, vI a4)]) C dX11_ring_46 (by decide) rfl ?_
        refine r_aload_n C 1 0 dX11_ring_48 rfl rfl ?_
        refine r_getI (kf := 18) C dX11_ring_49 rfl rfl f_X11 (by decide) t_5_74 rfl ?_
        refine r_if_eq C 58 dX11_ring_52 (by decide)  (fun h36 => ?_) (fun h36 => ?_)
        · have hF := if_t h36 hF
          refine r_aload_n C 1 0 dX11_ring_58 rfl rfl ?_
          refine r_getR (kf := 20) (d2 := (48, 0, 0)) C dX11_ring_59 rfl rfl f_X11 (by decide) t_5_76 rfl rfl ?_
          refine r_iconst (v := (4 : Int32)) C dX11_ring_62 rfl ?_
          refine r_aload_n C 1 0 dX11_ring_63 rfl rfl ?_
          refine r_getI (kf := 15) C dX11_ring_64 rfl rfl f_X11 (by decide) t_5_71 rfl ?_
          refine r_imul C dX11_ring_67 ?_
          refine r_aload_n C 1 0 dX11_ring_68 rfl rfl ?_
          refine r_getI (kf := 17) C dX11_ring_69 rfl rfl f_X11 (by decide) t_5_73 rfl ?_
          refine r_iadd C dX11_ring_72 ?_
          obtain ⟨h14, hF⟩ := ck_e hF
          refine r_iaload C ((((4 : Int32) * (σ11.1 (40, 0, 0) 15)) + (σ11.1 (40, 0, 0) 17)).toNatClampNeg) dX11_ring_73 rfl h14 rfl ?_
          obtain ⟨x15, ex15, hF⟩ := nam_e hF
          refine r_topI ex15 ?_
          refine r_istore (ls2 := [(6, vI x15), (5, vI r12), (0, vR (40, 0, 0)), (1, vI a1), (2, vI a2), (3, vI a3), (4, vI a4)]) C dX11_ring_74 (by decide) rfl ?_
          refine r_iconst (v := (0 : Int32)) C dX11_ring_76 rfl ?_
          refine r_istore (ls2 := [(7, vI (0 : Int32)), (6, vI x15), (5, vI r12), (0, vR (40, 0, 0)), (1, vI a1), (2, vI a2), (3, vI a3), (4, vI a4)]) C dX11_ring_77 (by decide) rfl ?_
          refine r_iconst (v := (0 : Int32)) C dX11_ring_79 rfl ?_
          refine r_istore (ls2 := [(8, vI (0 : Int32)), (7, vI (0 : Int32)), (6, vI x15), (5, vI r12), (0, vR (40, 0, 0)), (1, vI a1), (2, vI a2), (3, vI a3), (4, vI a4)]) C dX11_ring_80 (by decide) rfl ?_
          refine r_drop (ls2 := [(0, vR (40, 0, 0)), (4, vI a4), (5, vI r12), (6, vI x15), (7, vI (0 : Int32)), (8, vI (0 : Int32))]) [4, 8, 3, 2, 1, 0] rfl ?_
          refine l_X11_ring_82 C a4 r12 x15 _ ?_ _ _ _ _ hF
          · intro y33 σ32 hF
            refine r_iload C 0 dX11_ring_152 rfl ?_
            refine r_if_ne C 164 dX11_ring_154 (by decide)  (fun h35 => ?_) (fun h35 => ?_)
            · have hF := if_f h35 hF
              refine r_iload C 0 dX11_ring_164 rfl ?_
              refine r_iconst (v := (1 : Int32)) C dX11_ring_166 rfl ?_
              refine r_icmp_ne C 180 dX11_ring_167 (by decide)  (fun h34 => ?_) (fun h34 => ?_)
              · have hF := if_f h34 hF
                refine r_iload C 3 dX11_ring_180 rfl ?_
                exact r_ireturn C dX11_ring_182 (rt_e hF)
              · have hF := if_t h34 hF
                refine r_iload C 1 dX11_ring_170 rfl ?_
                refine r_iload C 2 dX11_ring_172 rfl ?_
                refine r_isub C dX11_ring_174 ?_
                refine r_iconst (v := (1 : Int32)) C dX11_ring_175 rfl ?_
                refine r_iadd C dX11_ring_176 ?_
                refine r_goto C 182 dX11_ring_177 (by decide) ?_
                exact r_ireturn C dX11_ring_182 (rt_e hF)
            · have hF := if_t h35 hF
              refine r_iload C 2 dX11_ring_157 rfl ?_
              refine r_iconst (v := (1 : Int32)) C dX11_ring_159 rfl ?_
              refine r_isub C dX11_ring_160 ?_
              refine r_goto C 182 dX11_ring_161 (by decide) ?_
              exact r_ireturn C dX11_ring_182 (rt_e hF)
        · have hF := if_f h36 hF
          refine r_bipush (v := (-4 : Int32)) C dX11_ring_55 rfl ?_
          exact r_ireturn C dX11_ring_57 (rt_e hF)
      · have hF := if_f h37 hF
        refine r_bipush (v := (-2 : Int32)) C dX11_ring_36 rfl ?_
        exact r_ireturn C dX11_ring_38 (rt_e hF)
    · have hF := if_t h38 hF
      refine r_iconst (v := (-1 : Int32)) C dX11_ring_22 rfl ?_
      exact r_ireturn C dX11_ring_23 (rt_e hF)
