def F_X11_torn  (σ : St) : Option (Int32 × St) :=
  some (σ.1 (40, 0, 0) 28, σ)
set_option maxRecDepth 20000 in
set_option maxHeartbeats 4000000 in
theorem s_X11_torn (G : Gx) (l : Launch)  {σ σ' : St} {r : Int32} (hF : F_X11_torn  σ = some (r, σ')) : Sp G l yX11_torn cX11_torn 1 (some .int) (lvl 0) [vR (40, 0, 0)] σ (va_Qi (fun a b => a = r ∧ b = σ') (Wd G) (AG G)) := by
  refine Sp_of (own := RX11) (by decide) rfl (Nat.le_of_ble_eq_true rfl) ?_
  intro p e s m args below meth c C
  show Rt G p l e (lvl 0) s m args below meth c 0 0 (MQ below (va_Qi (fun a b => a = r ∧ b = σ') (Wd G) (AG G)) args s 0 0 (AG G)) 1 0 [(0, vR (40, 0, 0))] [] σ
  unfold F_X11_torn at hF
  refine r_aload_n C 0 0 dX11_torn_0 rfl rfl ?_
  refine r_getI (kf := 28) C dX11_torn_1 rfl rfl f_X11 (by decide) t_5_84 rfl ?_
  exact r_ireturn C dX11_torn_4 (rt_e hF)
def L_X11_count_4 (c1 : Int32) : Nat → Int32 → Int32 → St → (Int32 → St → Option (Int32 × St)) → Option (Int32 × St)
  | 0, _, _, _, _ => none
  | n + 1, v2, v3, τ, kx38 =>
  (if (96 : Int32) ≤ v3 then kx38 v2 τ else ck (inb v3 576) (nam (fun (y2 : Int32) (σ4 : St) => bd (F_X11_flag y2 σ4) fun r6 σ5 => nam (v2 + r6) fun x8 => nam (v3 + (1 : Int32)) fun x9 => L_X11_count_4 c1 n x8 x9 σ5 kx38) fun k3 => (if (τ.1 (41, 0, 0) (v3.toNatClampNeg)) = (6 : Int32) then k3 (1 : Int32) τ else k3 (0 : Int32) τ)))
def F_X11_count (a1 : Int32) (σ : St) : Option (Int32 × St) :=
  L_X11_count_4 a1 FU (0 : Int32) (0 : Int32) σ (fun (y13 : Int32) (σ12 : St) => (if a1 = (0 : Int32) then ck (inb (176 : Int32) 576) (some (σ12.1 (41, 0, 0) 176, σ12)) else (if a1 = (1 : Int32) then bd (F_X11_thereMany  σ12) fun r18 σ17 => some (r18, σ17) else (if a1 = (2 : Int32) then some (σ12.1 (40, 0, 0) 23, σ12) else (if a1 = (3 : Int32) then ck (inb (0 : Int32) 2) (bd (F_X11_flag (σ12.1 (42, 0, 0) 0) σ12) fun r24 σ23 => ck (inb (1 : Int32) 2) (bd (F_X11_flag (σ23.1 (42, 0, 0) 1) σ23) fun r28 σ27 => some (r24 + r28, σ27))) else (if a1 = (4 : Int32) then some (y13, σ12) else (if a1 = (5 : Int32) then some (σ12.1 (40, 0, 0) 8, σ12) else (if a1 = (6 : Int32) then ck (inb (0 : Int32) 4) ((if (σ12.1 (52, 0, 0) 0) = (-4 : Int32) then some ((-4 : Int32), σ12) else ck (inb (0 : Int32) 4) (some (σ12.1 (53, 0, 0) 0, σ12)))) else some ((-1 : Int32), σ12)))))))))
set_option maxRecDepth 20000 in
set_option maxHeartbeats 4000000 in
theorem l_X11_count_4 {G : Gx} {p : Program} {l : Launch} {e : Env} {s : State} {m : MethodId} {args : Array Value} {below : List Frame} {meth : Method} {c : Code} (C : Cx G p s m args meth c (some .int) 4 RX11 cX11_count) (c1 : Int32) {σ' : St} {r : Int32} (kx38 : Int32 → St → Option (Int32 × St)) (hkx38 : ∀ (w2 : Int32) (τ : St), kx38 w2 τ = some (r, σ') → Rt G p l e (lvl 2) s m args below meth c 0 0 (MQ below (va_Qi (fun a b => a = r ∧ b = σ') (Wd G) (AG G)) args s 0 0 (AG G)) 4 38 [(0, vR (40, 0, 0)), (1, vI c1), (2, vI w2)] [] τ) : ∀ (n : Nat) (v2 : Int32) (v3 : Int32) (τ : St), L_X11_count_4 c1 n v2 v3 τ kx38 = some (r, σ') → Rt G p l e (lvl 2) s m args below meth c 0 0 (MQ below (va_Qi (fun a b => a = r ∧ b = σ') (Wd G) (AG G)) args s 0 0 (AG G)) 4 4 [(0, vR (40, 0, 0)), (1, vI c1), (2, vI v2), (3, vI v3)] [] τ := by
  intro n
  induction n with
  | zero => intro v2 v3 τ hF; cases hF
  | succ n ih =>
    intro v2 v3 τ hF
    unfold L_X11_count_4 at hF
    refine r_iload_n C 3 3 dX11_count_4 rfl rfl ?_
    refine r_bipush (v := (96 : Int32)) C dX11_count_5 rfl ?_
    refine r_icmp_ge C 38 dX11_count_7 (by decide)  (fun h11 => ?_) (fun h11 => ?_)
    · have hF := if_t h11 hF
      refine r_drop (ls2 := [(0, vR (40, 0, 0)), (1, vI c1), (2, vI v2)]) [0, 1, 2] rfl ?_
      exact hkx38 _ _ hF
    · have hF := if_f h11 hF
      refine r_iload_n C 2 2 dX11_count_10 rfl rfl ?_
      refine r_aload_n C 0 0 dX11_count_11 rfl rfl ?_
      refine r_getR (kf := 0) (d2 := (41, 0, 0)) C dX11_count_12 rfl rfl f_X11 (by decide) t_5_56 rfl rfl ?_
      refine r_iload_n C 3 3 dX11_count_15 rfl rfl ?_
      obtain ⟨h1, hF⟩ := ck_e hF
      refine r_iaload C (v3.toNatClampNeg) dX11_count_16 rfl h1 rfl ?_
      refine r_bipush (v := (6 : Int32)) C dX11_count_17 rfl ?_
      obtain ⟨k3, ek3, hF⟩ := nam_e hF
      have hk3 : ∀ (y2 : Int32) (σ4 : St), k3 y2 σ4 = some (r, σ') → Rt G p l e (lvl 2) s m args below meth c 0 0 (MQ below (va_Qi (fun a b => a = r ∧ b = σ') (Wd G) (AG G)) args s 0 0 (AG G)) 4 27 [(0, vR (40, 0, 0)), (1, vI c1), (3, vI v3)] [vI y2, vI v2] σ4 := by
        intro y2 σ4 hF
        subst ek3
        obtain ⟨r6, σ5, e7, hF⟩ := bd_e hF
        refine r_callS_i (as := [vI y2]) (st := [vI v2]) C dX11_count_27 (s_X11_flag G l e7) t_5_195 t_5_196 t_1_14 t_5_197 m_X11_flag ⟨Nat.le_of_ble_eq_true rfl, Nat.le_of_ble_eq_true rfl⟩ ⟨rfl, rfl⟩ ⟨Nat.zero_le _, Nat.zero_le _⟩ rfl (Nat.le_of_ble_eq_true rfl) ?_
        refine r_iadd C dX11_count_30 ?_
        obtain ⟨x8, ex8, hF⟩ := nam_e hF
        refine r_topI ex8 ?_
        refine r_istore_n (ls2 := [(2, vI x8), (0, vR (40, 0, 0)), (1, vI c1), (3, vI v3)]) C dX11_count_31 2 rfl (by decide) rfl ?_
        obtain ⟨x9, ex9, hF⟩ := nam_e hF
        refine r_iinc (v := x9) (ls2 := [(3, vI x9), (2, vI x8), (0, vR (40, 0, 0)), (1, vI c1)]) C 3 dX11_count_32 rfl ex9.symm (by decide) rfl ?_
        refine r_goto C 4 dX11_count_35 (by decide) ?_
        refine r_drop (ls2 := [(0, vR (40, 0, 0)), (1, vI c1), (2, vI x8), (3, vI x9)]) [2, 3, 1, 0] rfl ?_
        exact ih _ _ _ hF
      refine r_icmp_ne C 26 dX11_count_19 (by decide)  (fun h10 => ?_) (fun h10 => ?_)
      · have hF := if_f h10 hF
        refine r_iconst (v := (0 : Int32)) C dX11_count_26 rfl ?_
        refine r_drop (ls2 := [(0, vR (40, 0, 0)), (1, vI c1), (3, vI v3)]) [0, 1, 3] rfl ?_
        exact hk3 _ _ hF
      · have hF := if_t h10 hF
        refine r_iconst (v := (1 : Int32)) C dX11_count_22 rfl ?_
        refine r_goto C 27 dX11_count_23 (by decide) ?_
        refine r_drop (ls2 := [(0, vR (40, 0, 0)), (1, vI c1), (3, vI v3)]) [0, 1, 3] rfl ?_
        exact hk3 _ _ hF
set_option maxRecDepth 20000 in
set_option maxHeartbeats 4000000 in
theorem s_X11_count (G : Gx) (l : Launch) {a1 : Int32} {σ σ' : St} {r : Int32} (hF : F_X11_count a1 σ = some (r, σ')) : Sp G l yX11_count cX11_count 4 (some .int) (lvl 2) [vR (40, 0, 0), vI a1] σ (va_Qi (fun a b => a = r ∧ b = σ') (Wd G) (AG G)) := by
  refine Sp_of (own := RX11) (by decide) rfl (Nat.le_of_ble_eq_true rfl) ?_
  intro p e s m args below meth c C
  show Rt G p l e (lvl 2) s m args below meth c 0 0 (MQ below (va_Qi (fun a b => a = r ∧ b = σ') (Wd G) (AG G)) args s 0 0 (AG G)) 4 0 [(0, vR (40, 0, 0)), (1, vI a1)] [] σ
  unfold F_X11_count at hF
  refine r_iconst (v := (0 : Int32)) C dX11_count_0 rfl ?_
  refine r_istore_n (ls2 := [(2, vI (0 : Int32)), (0, vR (40, 0, 0)), (1, vI a1)]) C dX11_count_1 2 rfl (by decide) rfl ?_
  refine r_iconst (v := (0 : Int32)) C dX11_count_2 rfl ?_
  refine r_istore_n (ls2 := [(3, vI (0 : Int32)), (2, vI (0 : Int32)), (0, vR (40, 0, 0)), (1, vI a1)]) C dX11_count_3 3 rfl (by decide) rfl ?_
  refine r_drop (ls2 := [(0, vR (40, 0, 0)), (1, vI a1), (2, vI (0 : Int32)), (3, vI (0 : Int32))]) [2, 3, 1, 0] rfl ?_
  refine l_X11_count_4 C a1 _ ?_ _ _ _ _ hF
  · intro y13 σ12 hF
    refine r_iload_n C 1 1 dX11_count_38 rfl rfl ?_
    by_cases h14 : a1 = (0 : Int32)
    · have hF := if_t h14 hF
      refine r_tabIn (off := 41) C 80 dX11_count_39 (by rw [h14]; decide) (by rw [h14]; decide) (by rw [h14]; rfl) (by decide) ?_
      refine r_aload_n C 0 0 dX11_count_80 rfl rfl ?_
      refine r_getR (kf := 0) (d2 := (41, 0, 0)) C dX11_count_81 rfl rfl f_X11 (by decide) t_5_56 rfl rfl ?_
      refine r_sipush (v := (176 : Int32)) C dX11_count_84 rfl ?_
      obtain ⟨h15, hF⟩ := ck_e hF
      refine r_iaload C 176 dX11_count_87 rfl h15 rfl ?_
      exact r_ireturn C dX11_count_88 (rt_e hF)
    have hF := if_f h14 hF
    by_cases h16 : a1 = (1 : Int32)
    · have hF := if_t h16 hF
      refine r_tabIn (off := 50) C 89 dX11_count_39 (by rw [h16]; decide) (by rw [h16]; decide) (by rw [h16]; rfl) (by decide) ?_
      refine r_aload_n C 0 0 dX11_count_89 rfl rfl ?_
      obtain ⟨r18, σ17, e19, hF⟩ := bd_e hF
      refine r_callV_i (as := []) (st := []) C dX11_count_90 (s_X11_thereMany G l e19) rfl rfl rfl t_6_70 t_6_72 t_s_45 t_1_14 t_6_73 m_X11_thereMany ⟨Nat.le_of_ble_eq_true rfl, Nat.le_of_ble_eq_true rfl⟩ ⟨rfl, rfl⟩ ⟨Nat.zero_le _, Nat.zero_le _⟩ rfl (Nat.le_of_ble_eq_true rfl) ?_
      exact r_ireturn C dX11_count_93 (rt_e hF)
    have hF := if_f h16 hF
    by_cases h20 : a1 = (2 : Int32)
    · have hF := if_t h20 hF
      refine r_tabIn (off := 55) C 94 dX11_count_39 (by rw [h20]; decide) (by rw [h20]; decide) (by rw [h20]; rfl) (by decide) ?_
      refine r_aload_n C 0 0 dX11_count_94 rfl rfl ?_
      refine r_getI (kf := 23) C dX11_count_95 rfl rfl f_X11 (by decide) t_5_79 rfl ?_
      exact r_ireturn C dX11_count_98 (rt_e hF)
    have hF := if_f h20 hF
    by_cases h21 : a1 = (3 : Int32)
    · have hF := if_t h21 hF
      refine r_tabIn (off := 60) C 99 dX11_count_39 (by rw [h21]; decide) (by rw [h21]; decide) (by rw [h21]; rfl) (by decide) ?_
      refine r_aload_n C 0 0 dX11_count_99 rfl rfl ?_
      refine r_getR (kf := 1) (d2 := (42, 0, 0)) C dX11_count_100 rfl rfl f_X11 (by decide) t_5_57 rfl rfl ?_
      refine r_iconst (v := (0 : Int32)) C dX11_count_103 rfl ?_
      obtain ⟨h22, hF⟩ := ck_e hF
      refine r_zaload C 0 dX11_count_104 rfl h22 rfl ?_
      obtain ⟨r24, σ23, e25, hF⟩ := bd_e hF
      refine r_callS_i (as := [vI (σ12.1 (42, 0, 0) 0)]) (st := []) C dX11_count_105 (s_X11_flag G l e25) t_5_195 t_5_196 t_1_14 t_5_197 m_X11_flag ⟨Nat.le_of_ble_eq_true rfl, Nat.le_of_ble_eq_true rfl⟩ ⟨rfl, rfl⟩ ⟨Nat.zero_le _, Nat.zero_le _⟩ rfl (Nat.le_of_ble_eq_true rfl) ?_
      refine r_aload_n C 0 0 dX11_count_108 rfl rfl ?_
      refine r_getR (kf := 1) (d2 := (42, 0, 0)) C dX11_count_109 rfl rfl f_X11 (by decide) t_5_57 rfl rfl ?_
      refine r_iconst (v := (1 : Int32)) C dX11_count_112 rfl ?_
      obtain ⟨h26, hF⟩ := ck_e hF
      refine r_zaload C 1 dX11_count_113 rfl h26 rfl ?_
      obtain ⟨r28, σ27, e29, hF⟩ := bd_e hF
      refine r_callS_i (as := [vI (σ23.1 (42, 0, 0) 1)]) (st := [vI r24]) C dX11_count_114 (s_X11_flag G l e29) t_5_195 t_5_196 t_1_14 t_5_197 m_X11_flag ⟨Nat.le_of_ble_eq_true rfl, Nat.le_of_ble_eq_true rfl⟩ ⟨rfl, rfl⟩ ⟨Nat.zero_le _, Nat.zero_le _⟩ rfl (Nat.le_of_ble_eq_true rfl) ?_
      refine r_iadd C dX11_count_117 ?_
      exact r_ireturn C dX11_count_118 (rt_e hF)
    have hF := if_f h21 hF
    by_cases h30 : a1 = (4 : Int32)
    · have hF := if_t h30 hF
      refine r_tabIn (off := 80) C 119 dX11_count_39 (by rw [h30]; decide) (by rw [h30]; decide) (by rw [h30]; rfl) (by decide) ?_
      refine r_iload_n C 2 2 dX11_count_119 rfl rfl ?_
      exact r_ireturn C dX11_count_120 (rt_e hF)
    have hF := if_f h30 hF
    by_cases h31 : a1 = (5 : Int32)
    · have hF := if_t h31 hF
      refine r_tabIn (off := 82) C 121 dX11_count_39 (by rw [h31]; decide) (by rw [h31]; decide) (by rw [h31]; rfl) (by decide) ?_
      refine r_aload_n C 0 0 dX11_count_121 rfl rfl ?_
      refine r_getI (kf := 8) C dX11_count_122 rfl rfl f_X11 (by decide) t_5_64 rfl ?_
      exact r_ireturn C dX11_count_125 (rt_e hF)
    have hF := if_f h31 hF
    by_cases h32 : a1 = (6 : Int32)
    · have hF := if_t h32 hF
      refine r_tabIn (off := 87) C 126 dX11_count_39 (by rw [h32]; decide) (by rw [h32]; decide) (by rw [h32]; rfl) (by decide) ?_
      refine r_aload_n C 0 0 dX11_count_126 rfl rfl ?_
      refine r_getR (kf := 25) (d2 := (52, 0, 0)) C dX11_count_127 rfl rfl f_X11 (by decide) t_5_81 rfl rfl ?_
      refine r_iconst (v := (0 : Int32)) C dX11_count_130 rfl ?_
      obtain ⟨h33, hF⟩ := ck_e hF
      refine r_iaload C 0 dX11_count_131 rfl h33 rfl ?_
      refine r_bipush (v := (-4 : Int32)) C dX11_count_132 rfl ?_
      refine r_icmp_ne C 142 dX11_count_134 (by decide)  (fun h35 => ?_) (fun h35 => ?_)
      · have hF := if_f h35 hF
        refine r_aload_n C 0 0 dX11_count_142 rfl rfl ?_
        refine r_getR (kf := 26) (d2 := (53, 0, 0)) C dX11_count_143 rfl rfl f_X11 (by decide) t_5_82 rfl rfl ?_
        refine r_iconst (v := (0 : Int32)) C dX11_count_146 rfl ?_
        obtain ⟨h34, hF⟩ := ck_e hF
        refine r_iaload C 0 dX11_count_147 rfl h34 rfl ?_
        exact r_ireturn C dX11_count_148 (rt_e hF)
      · have hF := if_t h35 hF
        refine r_bipush (v := (-4 : Int32)) C dX11_count_137 rfl ?_
        refine r_goto C 148 dX11_count_139 (by decide) ?_
        exact r_ireturn C dX11_count_148 (rt_e hF)
    have hF := if_f h32 hF
    refine r_tabOut C 149 dX11_count_39 (by have u0 := lv_neT h14 (a := 0) rfl; have u1 := lv_neT h16 (a := 1) rfl; have u2 := lv_neT h20 (a := 2) rfl; have u3 := lv_neT h21 (a := 3) rfl; have u4 := lv_neT h30 (a := 4) rfl; have u5 := lv_neT h31 (a := 5) rfl; have u6 := lv_neT h32 (a := 6) rfl; omega) (by decide) ?_
    refine r_iconst (v := (-1 : Int32)) C dX11_count_149 rfl ?_
    exact r_ireturn C dX11_count_150 (rt_e hF)
