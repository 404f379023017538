def L_X11_told_6 (c0 : Int64) (c2 : Int64) (c4 : Int32) : Nat → Int64 → Int64 → St → (Int64 → St → Option (Int64 × St)) → Option (Int64 × St)
  | 0, _, _, _, _ => none
  | n + 1, v5, v7, τ, kx31 =>
  (if (lg_cmp v7 (0 : Int64)) = 0 then kx31 v5 τ else ck (decide (¬ v7 = 0)) (nam (v5 - v5 / v7 * v7) fun x2 => L_X11_told_6 c0 c2 c4 n v7 x2 τ kx31))
def F_X11_told (a0 : Int64) (a1 : Int64) (a2 : Int32) (σ : St) : Option (Int64 × St) :=
  L_X11_told_6 a0 a1 a2 FU a1 a0 σ (fun (y5 : Int64) (σ4 : St) => (if a2 = 0 then ck (decide (¬ y5 = 0)) (some (a0 / y5, σ4)) else ck (decide (¬ y5 = 0)) (some (a1 / y5, σ4))))
set_option maxRecDepth 20000 in
set_option maxHeartbeats 4000000 in
theorem l_X11_told_6 {G : Gx} {p : Program} {l : Launch} {e : Env} {s : State} {m : MethodId} {args : Array Value} {below : List Frame} {meth : Method} {c : Code} (C : Cx G p s m args meth c (some .long) 11 RX11 cX11_told) (c0 : Int64) (c2 : Int64) (c4 : Int32) {σ' : St} {r : Int64} (kx31 : Int64 → St → Option (Int64 × St)) (hkx31 : ∀ (w5 : Int64) (τ : St), kx31 w5 τ = some (r, σ') → Rt G p l e (lvl 0) s m args below meth c 0 0 (MQ below (va_Ql (fun a b => a = r ∧ b = σ') (Wd G) (AG G)) args s 0 0 (AG G)) 11 31 [(0, vL c0), (2, vL c2), (4, vI c4), (5, vL w5)] [] τ) : ∀ (n : Nat) (v5 : Int64) (v7 : Int64) (τ : St), L_X11_told_6 c0 c2 c4 n v5 v7 τ kx31 = some (r, σ') → Rt G p l e (lvl 0) s m args below meth c 0 0 (MQ below (va_Ql (fun a b => a = r ∧ b = σ') (Wd G) (AG G)) args s 0 0 (AG G)) 11 6 [(0, vL c0), (2, vL c2), (4, vI c4), (5, vL v5), (7, vL v7)] [] τ := by
  intro n
  induction n with
  | zero => intro v5 v7 τ hF; cases hF
  | succ n ih =>
    intro v5 v7 τ hF
    unfold L_X11_told_6 at hF
    refine r_lload C 4 dX11_told_6 rfl ?_
    refine r_lconst (v := (0 : Int64)) C dX11_told_8 rfl ?_
    refine r_lcmp C dX11_told_9 ?_
    refine r_if_eq C 31 dX11_told_10 (by decide)  (fun h3 => ?_) (fun h3 => ?_)
    · have hF := if_t h3 hF
      refine r_drop (ls2 := [(0, vL c0), (2, vL c2), (4, vI c4), (5, vL v5)]) [0, 1, 2, 3] rfl ?_
      exact hkx31 _ _ hF
    · have hF := if_f h3 hF
      refine r_lload C 3 dX11_told_13 rfl ?_
      refine r_lload C 4 dX11_told_15 rfl ?_
      obtain ⟨h1, hF⟩ := ck_e hF
      refine r_lrem C dX11_told_17 (nzl h1) ?_
      obtain ⟨x2, ex2, hF⟩ := nam_e hF
      refine r_topL ex2 ?_
      refine r_lstore (ls2 := [(9, vL x2), (0, vL c0), (2, vL c2), (4, vI c4), (5, vL v5), (7, vL v7)]) C dX11_told_18 (by decide) rfl ?_
      refine r_lload C 5 dX11_told_20 rfl ?_
      refine r_lstore (ls2 := [(5, vL v7), (9, vL x2), (0, vL c0), (2, vL c2), (4, vI c4), (7, vL v7)]) C dX11_told_22 (by decide) rfl ?_
      refine r_lload C 1 dX11_told_24 rfl ?_
      refine r_lstore (ls2 := [(7, vL x2), (5, vL v7), (9, vL x2), (0, vL c0), (2, vL c2), (4, vI c4)]) C dX11_told_26 (by decide) rfl ?_
      refine r_goto C 6 dX11_told_28 (by decide) ?_
      refine r_drop (ls2 := [(0, vL c0), (2, vL c2), (4, vI c4), (5, vL v7), (7, vL x2)]) [3, 4, 5, 1, 0] rfl ?_
      exact ih _ _ _ hF
set_option maxRecDepth 20000 in
set_option maxHeartbeats 4000000 in
theorem s_X11_told (G : Gx) (l : Launch) {a0 : Int64} {a1 : Int64} {a2 : Int32} {σ σ' : St} {r : Int64} (hF : F_X11_told a0 a1 a2 σ = some (r, σ')) : Sp G l yX11_told cX11_told 11 (some .long) (lvl 0) [vL a0, vL a1, vI a2] σ (va_Ql (fun a b => a = r ∧ b = σ') (Wd G) (AG G)) := by
  refine Sp_of (own := RX11) (by decide) rfl (Nat.le_of_ble_eq_true rfl) ?_
  intro p e s m args below meth c C
  show Rt G p l e (lvl 0) s m args below meth c 0 0 (MQ below (va_Ql (fun a b => a = r ∧ b = σ') (Wd G) (AG G)) args s 0 0 (AG G)) 11 0 [(0, vL a0), (2, vL a1), (4, vI a2)] [] σ
  unfold F_X11_told at hF
  refine r_lload_n C 1 2 dX11_told_0 rfl rfl ?_
  refine r_lstore (ls2 := [(5, vL a1), (0, vL a0), (2, vL a1), (4, vI a2)]) C dX11_told_1 (by decide) rfl ?_
  refine r_lload_n C 1 0 dX11_told_3 rfl rfl ?_
  refine r_lstore (ls2 := [(7, vL a0), (5, vL a1), (0, vL a0), (2, vL a1), (4, vI a2)]) C dX11_told_4 (by decide) rfl ?_
  refine r_drop (ls2 := [(0, vL a0), (2, vL a1), (4, vI a2), (5, vL a1), (7, vL a0)]) [2, 3, 4, 1, 0] rfl ?_
  refine l_X11_told_6 C a0 a1 a2 _ ?_ _ _ _ _ hF
  · intro y5 σ4 hF
    refine r_iload C 2 dX11_told_31 rfl ?_
    refine r_if_ne C 43 dX11_told_33 (by decide)  (fun h8 => ?_) (fun h8 => ?_)
    · have hF := if_f h8 hF
      refine r_lload_n C 1 2 dX11_told_43 rfl rfl ?_
      refine r_lload C 3 dX11_told_44 rfl ?_
      obtain ⟨h6, hF⟩ := ck_e hF
      refine r_ldiv C dX11_told_46 (nzl h6) ?_
      exact r_lreturn C dX11_told_47 (rt_e hF)
    · have hF := if_t h8 hF
      refine r_lload_n C 0 0 dX11_told_36 rfl rfl ?_
      refine r_lload C 3 dX11_told_37 rfl ?_
      obtain ⟨h7, hF⟩ := ck_e hF
      refine r_ldiv C dX11_told_39 (nzl h7) ?_
      refine r_goto C 47 dX11_told_40 (by decide) ?_
      exact r_lreturn C dX11_told_47 (rt_e hF)
def L_X11_odds_58 (c1 : Int32) (c2 : Int32) (c3 : Int32) (c4 : Int32) : Nat → Int32 → St → (St → Option (Int64 × St)) → Option (Int64 × St)
  | 0, _, _, _ => none
  | n + 1, v5, τ, kx94 =>
  (if (96 : Int32) ≤ v5 then kx94  τ else nam (fun (y14 : Int64) (σ16 : St) => ck (inb v5 96) (nam (uL σ16 (49, 0, 0) (v5.toNatClampNeg) y14) fun σ18 => nam (v5 + (1 : Int32)) fun x19 => L_X11_odds_58 c1 c2 c3 c4 n x19 σ18 kx94)) fun k15 => (if v5 = c1 then (if c1 = c2 then k15 (0 : Int64) τ else k15 (1 : Int64) τ) else k15 (0 : Int64) τ))
def L_X11_odds_112 (c2 : Int32) (c3 : Int32) (c4 : Int32) : Nat → Int64 → Int64 → Int32 → St → (Int64 → Int64 → St → Option (Int64 × St)) → Option (Int64 × St)
  | 0, _, _, _, _, _ => none
  | n + 1, v5, v7, v9, τ, kx146 =>
  (if c3 ≤ v9 then kx146 v5 v7 τ else bd (F_X11_spreads c2 τ) fun r28 σ27 => nam (v7 * (4 : Int64)) fun x30 => nam (v9 + (1 : Int32)) fun x31 => L_X11_odds_112 c2 c3 c4 n (((4 : Int64) * v5) + r28) x30 x31 σ27 kx146)
def F_X11_odds (a1 : Int32) (a2 : Int32) (a3 : Int32) (a4 : Int32) (σ : St) : Option (Int64 × St) :=
  bd (F_X11_isCell a1 σ) fun r2 σ1 => (if r2 = 0 then some ((-1 : Int64), σ1) else bd (F_X11_isCell a2 σ1) fun r5 σ4 => (if r5 = 0 then some ((-1 : Int64), σ4) else bd (F_X11_in (a3.toInt64) (0 : Int64) (10 : Int64) σ4) fun r8 σ7 => (if r8 = 0 then some ((-1 : Int64), σ7) else bd (F_X11_in (a4.toInt64) (0 : Int64) (1 : Int64) σ7) fun r11 σ10 => (if r11 = 0 then some ((-1 : Int64), σ10) else ck (inb a1 576) ((if (σ10.1 (41, 0, 0) (a1.toNatClampNeg)) = (5 : Int32) then some ((-2 : Int64), σ10) else L_X11_odds_58 a1 a2 a3 a4 FU (0 : Int32) σ10 (fun  (σ23 : St) => nam (fun (y24 : Int64) (σ26 : St) => L_X11_odds_112 a2 a3 a4 FU y24 (1 : Int64) (0 : Int32) σ26 (fun (y34 : Int64) (y35 : Int64) (σ33 : St) => bd (F_X11_told y34 y35 a4 σ33) fun r37 σ36 => some (r37, σ36))) fun k25 => (if a1 = a2 then k25 (1 : Int64) σ23 else k25 (0 : Int64) σ23))))))))
set_option maxRecDepth 20000 in
set_option maxHeartbeats 4000000 in
theorem l_X11_odds_58 {G : Gx} {p : Program} {l : Launch} {e : Env} {s : State} {m : MethodId} {args : Array Value} {below : List Frame} {meth : Method} {c : Code} (C : Cx G p s m args meth c (some .long) 10 RX11 cX11_odds) (c1 : Int32) (c2 : Int32) (c3 : Int32) (c4 : Int32) {σ' : St} {r : Int64} (kx94 : St → Option (Int64 × St)) (hkx94 : ∀  (τ : St), kx94  τ = some (r, σ') → Rt G p l e (lvl 3) s m args below meth c 0 0 (MQ below (va_Ql (fun a b => a = r ∧ b = σ') (Wd G) (AG G)) args s 0 0 (AG G)) 10 94 [(0, vR (40, 0, 0)), (1, vI c1), (2, vI c2), (3, vI c3), (4, vI c4)] [] τ) : ∀ (n : Nat) (v5 : Int32) (τ : St), L_X11_odds_58 c1 c2 c3 c4 n v5 τ kx94 = some (r, σ') → Rt G p l e (lvl 3) s m args below meth c 0 0 (MQ below (va_Ql (fun a b => a = r ∧ b = σ') (Wd G) (AG G)) args s 0 0 (AG G)) 10 58 [(0, vR (40, 0, 0)), (1, vI c1), (2, vI c2), (3, vI c3), (4, vI c4), (5, vI v5)] [] τ := by
  intro n
  induction n with
  | zero => intro v5 τ hF; cases hF
  | succ n ih =>
    intro v5 τ hF
    unfold L_X11_odds_58 at hF
    refine r_iload C 5 dX11_odds_58 rfl ?_
    refine r_bipush (v := (96 : Int32)) C dX11_odds_60 rfl ?_
    refine r_icmp_ge C 94 dX11_odds_62 (by decide)  (fun h22 => ?_) (fun h22 => ?_)
    · have hF := if_t h22 hF
      refine r_drop (ls2 := [(0, vR (40, 0, 0)), (1, vI c1), (2, vI c2), (3, vI c3), (4, vI c4)]) [0, 1, 2, 3, 4] rfl ?_
      exact hkx94 _ hF
    · have hF := if_f h22 hF
      refine r_aload_n C 0 0 dX11_odds_65 rfl rfl ?_
      refine r_getR (kf := 21) (d2 := (49, 0, 0)) C dX11_odds_66 rfl rfl f_X11 (by decide) t_5_77 rfl rfl ?_
      refine r_iload C 5 dX11_odds_69 rfl ?_
      refine r_iload C 5 dX11_odds_71 rfl ?_
      refine r_iload_n C 1 1 dX11_odds_73 rfl rfl ?_
      obtain ⟨k15, ek15, hF⟩ := nam_e hF
      have hk15 : ∀ (y14 : Int64) (σ16 : St), k15 y14 σ16 = some (r, σ') → Rt G p l e (lvl 3) s m args below meth c 0 0 (MQ below (va_Ql (fun a b => a = r ∧ b = σ') (Wd G) (AG G)) args s 0 0 (AG G)) 10 87 [(0, vR (40, 0, 0)), (1, vI c1), (2, vI c2), (3, vI c3), (4, vI c4), (5, vI v5)] [vL y14, vI v5, vR (49, 0, 0)] σ16 := by
        intro y14 σ16 hF
        subst ek15
        obtain ⟨h17, hF⟩ := ck_e hF
        obtain ⟨σ18, eσ18, hF⟩ := nam_e hF
        refine r_lastore C (v5.toNatClampNeg) dX11_odds_87 rfl h17 rfl eσ18 ?_
        obtain ⟨x19, ex19, hF⟩ := nam_e hF
        refine r_iinc (v := x19) (ls2 := [(5, vI x19), (0, vR (40, 0, 0)), (1, vI c1), (2, vI c2), (3, vI c3), (4, vI c4)]) C 5 dX11_odds_88 rfl ex19.symm (by decide) rfl ?_
        refine r_goto C 58 dX11_odds_91 (by decide) ?_
        refine r_drop (ls2 := [(0, vR (40, 0, 0)), (1, vI c1), (2, vI c2), (3, vI c3), (4, vI c4), (5, vI x19)]) [1, 2, 3, 4, 5, 0] rfl ?_
        exact ih _ _ hF
      refine r_icmp_ne C 86 dX11_odds_74 (by decide)  (fun h21 => ?_) (fun h21 => ?_)
      · have hF := if_f h21 hF
        refine r_lconst (v := (0 : Int64)) C dX11_odds_86 rfl ?_
        exact hk15 _ _ hF
      · have hF := if_t h21 hF
        refine r_iload_n C 1 1 dX11_odds_77 rfl rfl ?_
        refine r_iload_n C 2 2 dX11_odds_78 rfl rfl ?_
        refine r_icmp_eq C 86 dX11_odds_79 (by decide)  (fun h20 => ?_) (fun h20 => ?_)
        · have hF := if_t h20 hF
          refine r_lconst (v := (0 : Int64)) C dX11_odds_86 rfl ?_
          exact hk15 _ _ hF
        · have hF := if_f h20 hF
          refine r_lconst (v := (1 : Int64)) C dX11_odds_82 rfl ?_
          refine r_goto C 87 dX11_odds_83 (by decide) ?_
          exact hk15 _ _ hF
set_option maxRecDepth 20000 in
set_option maxHeartbeats 4000000 in
theorem l_X11_odds_112 {G : Gx} {p : Program} {l : Launch} {e : Env} {s : State} {m : MethodId} {args : Array Value} {below : List Frame} {meth : Method} {c : Code} (C : Cx G p s m args meth c (some .long) 10 RX11 cX11_odds) (c2 : Int32) (c3 : Int32) (c4 : Int32) {σ' : St} {r : Int64} (kx146 : Int64 → Int64 → St → Option (Int64 × St)) (hkx146 : ∀ (w5 : Int64) (w7 : Int64) (τ : St), kx146 w5 w7 τ = some (r, σ') → Rt G p l e (lvl 3) s m args below meth c 0 0 (MQ below (va_Ql (fun a b => a = r ∧ b = σ') (Wd G) (AG G)) args s 0 0 (AG G)) 10 146 [(4, vI c4), (5, vL w5), (7, vL w7)] [] τ) : ∀ (n : Nat) (v5 : Int64) (v7 : Int64) (v9 : Int32) (τ : St), L_X11_odds_112 c2 c3 c4 n v5 v7 v9 τ kx146 = some (r, σ') → Rt G p l e (lvl 3) s m args below meth c 0 0 (MQ below (va_Ql (fun a b => a = r ∧ b = σ') (Wd G) (AG G)) args s 0 0 (AG G)) 10 112 [(0, vR (40, 0, 0)), (2, vI c2), (3, vI c3), (4, vI c4), (5, vL v5), (7, vL v7), (9, vI v9)] [] τ := by
  intro n
  induction n with
  | zero => intro v5 v7 v9 τ hF; cases hF
  | succ n ih =>
    intro v5 v7 v9 τ hF
    unfold L_X11_odds_112 at hF
    refine r_iload C 6 dX11_odds_112 rfl ?_
    refine r_iload_n C 2 3 dX11_odds_114 rfl rfl ?_
    refine r_icmp_ge C 146 dX11_odds_115 (by decide)  (fun h32 => ?_) (fun h32 => ?_)
    · have hF := if_t h32 hF
      refine r_drop (ls2 := [(4, vI c4), (5, vL v5), (7, vL v7)]) [3, 4, 5] rfl ?_
      exact hkx146 _ _ _ hF
    · have hF := if_f h32 hF
      refine r_ldc2_w (v := (4 : Int64)) C dX11_odds_118 t_6_194 ?_
      refine r_lload C 4 dX11_odds_121 rfl ?_
      refine r_lmul C dX11_odds_123 ?_
      refine r_aload_n C 0 0 dX11_odds_124 rfl rfl ?_
      refine r_iload_n C 1 2 dX11_odds_125 rfl rfl ?_
      obtain ⟨r28, σ27, e29, hF⟩ := bd_e hF
      refine r_callV_l (as := [vI c2]) (st := [vL ((4 : Int64) * v5)]) C dX11_odds_126 (s_X11_spreads G l e29) rfl rfl rfl t_6_195 t_6_197 t_s_56 t_1_14 t_6_198 m_X11_spreads ⟨Nat.le_of_ble_eq_true rfl, Nat.le_of_ble_eq_true rfl⟩ ⟨rfl, rfl⟩ ⟨Nat.zero_le _, Nat.zero_le _⟩ rfl (Nat.le_of_ble_eq_true rfl) ?_
      refine r_ladd C dX11_odds_129 ?_
      refine r_lstore (ls2 := [(5, vL (((4 : Int64) * v5) + r28)), (0, vR (40, 0, 0)), (2, vI c2), (3, vI c3), (4, vI c4), (7, vL v7), (9, vI v9)]) C dX11_odds_130 (by decide) rfl ?_
      refine r_lload C 5 dX11_odds_132 rfl ?_
      refine r_ldc2_w (v := (4 : Int64)) C dX11_odds_134 t_6_194 ?_
      refine r_lmul C dX11_odds_137 ?_
      obtain ⟨x30, ex30, hF⟩ := nam_e hF
      refine r_topL ex30 ?_
      refine r_lstore (ls2 := [(7, vL x30), (5, vL (((4 : Int64) * v5) + r28)), (0, vR (40, 0, 0)), (2, vI c2), (3, vI c3), (4, vI c4), (9, vI v9)]) C dX11_odds_138 (by decide) rfl ?_
      obtain ⟨x31, ex31, hF⟩ := nam_e hF
      refine r_iinc (v := x31) (ls2 := [(9, vI x31), (7, vL x30), (5, vL (((4 : Int64) * v5) + r28)), (0, vR (40, 0, 0)), (2, vI c2), (3, vI c3), (4, vI c4)]) C 6 dX11_odds_140 rfl ex31.symm (by decide) rfl ?_
      refine r_goto C 112 dX11_odds_143 (by decide) ?_
      refine r_drop (ls2 := [(0, vR (40, 0, 0)), (2, vI c2), (3, vI c3), (4, vI c4), (5, vL (((4 : Int64) * v5) + r28)), (7, vL x30), (9, vI x31)]) [3, 4, 5, 6, 2, 1, 0] rfl ?_
      exact ih _ _ _ _ hF
set_option maxRecDepth 20000 in
set_option maxHeartbeats 4000000 in
theorem s_X11_odds (G : Gx) (l : Launch) {a1 : Int32} {a2 : Int32} {a3 : Int32} {a4 : Int32} {σ σ' : St} {r : Int64} (hF : F_X11_odds a1 a2 a3 a4 σ = some (r, σ')) : Sp G l yX11_odds cX11_odds 10 (some .long) (lvl 3) [vR (40, 0, 0), vI a1, vI a2, vI a3, vI a4] σ (va_Ql (fun a b => a = r ∧ b = σ') (Wd G) (AG G)) := by
  refine Sp_of (own := RX11) (by decide) rfl (Nat.le_of_ble_eq_true rfl) ?_
  intro p e s m args below meth c C
  show Rt G p l e (lvl 3) s m args below meth c 0 0 (MQ below (va_Ql (fun a b => a = r ∧ b = σ') (Wd G) (AG G)) args s 0 0 (AG G)) 10 0 [(0, vR (40, 0, 0)), (1, vI a1), (2, vI a2), (3, vI a3), (4, vI a4)] [] σ
  unfold F_X11_odds at hF
  refine r_iload_n C 1 1 dX11_odds_0 rfl rfl ?_
  obtain ⟨r2, σ1, e3, hF⟩ := bd_e hF
  refine r_callS_i (as := [vI a1]) (st := []) C dX11_odds_1 (s_X11_isCell G l e3) t_5_223 t_5_224 t_1_14 t_5_225 m_X11_isCell ⟨Nat.le_of_ble_eq_true rfl, Nat.le_of_ble_eq_true rfl⟩ ⟨rfl, rfl⟩ ⟨Nat.zero_le _, Nat.zero_le _⟩ rfl (Nat.le_of_ble_eq_true rfl) ?_
  refine r_if_eq C 37 dX11_odds_4 (by decide)  (fun h44 => ?_) (fun h44 => ?_)
  · have hF := if_t h44 hF
    refine r_ldc2_w (v := (-1 : Int64)) C dX11_odds_37 t_6_148 ?_
    exact r_lreturn C dX11_odds_40 (rt_e hF)
  · have hF := if_f h44 hF
    refine r_iload_n C 2 2 dX11_odds_7 rfl rfl ?_
    obtain ⟨r5, σ4, e6, hF⟩ := bd_e hF
    refine r_callS_i (as := [vI a2]) (st := []) C dX11_odds_8 (s_X11_isCell G l e6) t_5_223 t_5_224 t_1_14 t_5_225 m_X11_isCell ⟨Nat.le_of_ble_eq_true rfl, Nat.le_of_ble_eq_true rfl⟩ ⟨rfl, rfl⟩ ⟨Nat.zero_le _, Nat.zero_le _⟩ rfl (Nat.le_of_ble_eq_true rfl) ?_
    refine r_if_eq C 37 dX11_odds_11 (by decide)  (fun h43 => ?_) (fun h43 => ?_)
    · have hF := if_t h43 hF
      refine r_ldc2_w (v := (-1 : Int64)) C dX11_odds_37 t_6_148 ?_
      exact r_lreturn C dX11_odds_40 (rt_e hF)
    · have hF := if_f h43 hF
      refine r_iload_n C 3 3 dX11_odds_14 rfl rfl ?_
      refine r_i2l C dX11_odds_15 ?_
      refine r_lconst (v := (0 : Int64)) C dX11_odds_16 rfl ?_
      refine r_ldc2_w (v := (10 : Int64)) C dX11_odds_17 t_6_193 ?_
      obtain ⟨r8, σ7, e9, hF⟩ := bd_e hF
      refine r_callS_i (as := [vL (a3.toInt64), vL (0 : Int64), vL (10 : Int64)]) (st := []) C dX11_odds_20 (s_X11_in G l e9) t_5_153 t_5_154 t_1_14 t_5_155 m_X11_in ⟨Nat.le_of_ble_eq_true rfl, Nat.le_of_ble_eq_true rfl⟩ ⟨rfl, rfl⟩ ⟨Nat.zero_le _, Nat.zero_le _⟩ rfl (Nat.le_of_ble_eq_true rfl) ?_
      refine r_if_eq C 37 dX11_odds_23 (by decide)  (fun h42 => ?_) (fun h42 => ?_)
      · have hF := if_t h42 hF
        refine r_ldc2_w (v := (-1 : Int64)) C dX11_odds_37 t_6_148 ?_
        exact r_lreturn C dX11_odds_40 (rt_e hF)
      · have hF := if_f h42 hF
        refine r_iload C 4 dX11_odds_26 rfl ?_
        refine r_i2l C dX11_odds_28 ?_
        refine r_lconst (v := (0 : Int64)) C dX11_odds_29 rfl ?_
        refine r_lconst (v := (1 : Int64)) C dX11_odds_30 rfl ?_
        obtain ⟨r11, σ10, e12, hF⟩ := bd_e hF
        refine r_callS_i (as := [vL (a4.toInt64), vL (0 : Int64), vL (1 : Int64)]) (st := []) C dX11_odds_31 (s_X11_in G l e12) t_5_153 t_5_154 t_1_14 t_5_155 m_X11_in ⟨Nat.le_of_ble_eq_true rfl, Nat.le_of_ble_eq_true rfl⟩ ⟨rfl, rfl⟩ ⟨Nat.zero_le _, Nat.zero_le _⟩ rfl (Nat.le_of_ble_eq_true rfl) ?_
        refine r_if_ne C 41 dX11_odds_34 (by decide)  (fun h41 => ?_) (fun h41 => ?_)
        · have hF := if_f h41 hF
          refine r_aload_n C 0 0 dX11_odds_41 rfl rfl ?_
          refine r_getR (kf := 0) (d2 := (41, 0, 0)) C dX11_odds_42 rfl rfl f_X11 (by decide) t_5_56 rfl rfl ?_
          refine r_iload_n C 1 1 dX11_odds_45 rfl rfl ?_
          obtain ⟨h13, hF⟩ := ck_e hF
          refine r_iaload C (a1.toNatClampNeg) dX11_odds_46 rfl h13 rfl ?_
          refine r_iconst (v := (5 : Int32)) C dX11_odds_47 rfl ?_
          refine r_icmp_ne C 55 dX11_odds_48 (by decide)  (fun h40 => ?_) (fun h40 => ?_)
          · have hF := if_f h40 hF
            refine r_iconst (v := (0 : Int32)) C dX11_odds_55 rfl ?_
            refine r_istore (ls2 := [(5, vI (0 : Int32)), (0, vR (40, 0, 0)), (1, vI a1), (2, vI a2), (3, vI a3), (4, vI a4)]) C dX11_odds_56 (by decide) rfl ?_
            refine r_drop (ls2 := [(0, vR (40, 0, 0)), (1, vI a1), (2, vI a2), (3, vI a3), (4, vI a4), (5, vI (0 : Int32))]) [1, 2, 3, 4, 5, 0] rfl ?_
            refine l_X11_odds_58 C a1 a2 a3 a4 _ ?_ _ _ _ hF
            · intro  σ23 hF
              refine r_iload_n C 1 1 dX11_odds_94 rfl rfl ?_
              refine r_iload_n C 2 2 dX11_odds_95 rfl rfl ?_
              obtain ⟨k25, ek25, hF⟩ := nam_e hF
              have hk25 : ∀ (y24 : Int64) (σ26 : St), k25 y24 σ26 = some (r, σ') → Rt G p l e (lvl 3) s m args below meth c 0 0 (MQ below (va_Ql (fun a b => a = r ∧ b = σ') (Wd G) (AG G)) args s 0 0 (AG G)) 10 104 [(0, vR (40, 0, 0)), (2, vI a2), (3, vI a3), (4, vI a4)] [vL y24] σ26 := by
                intro y24 σ26 hF
                subst ek25
                refine r_lstore (ls2 := [(5, vL y24), (0, vR (40, 0, 0)), (2, vI a2), (3, vI a3), (4, vI a4)]) C dX11_odds_104 (by decide) rfl ?_
                refine r_lconst (v := (1 : Int64)) C dX11_odds_106 rfl ?_
                refine r_lstore (ls2 := [(7, vL (1 : Int64)), (5, vL y24), (0, vR (40, 0, 0)), (2, vI a2), (3, vI a3), (4, vI a4)]) C dX11_odds_107 (by decide) rfl ?_
                refine r_iconst (v := (0 : Int32)) C dX11_odds_109 rfl ?_
                refine r_istore (ls2 := [(9, vI (0 : Int32)), (7, vL (1 : Int64)), (5, vL y24), (0, vR (40, 0, 0)), (2, vI a2), (3, vI a3), (4, vI a4)]) C dX11_odds_110 (by decide) rfl ?_
                refine r_drop (ls2 := [(0, vR (40, 0, 0)), (2, vI a2), (3, vI a3), (4, vI a4), (5, vL y24), (7, vL (1 : Int64)), (9, vI (0 : Int32))]) [3, 4, 5, 6, 2, 1, 0] rfl ?_
                refine l_X11_odds_112 C a2 a3 a4 _ ?_ _ _ _ _ _ hF
                · intro y34 y35 σ33 hF
                  refine r_lload C 1 dX11_odds_146 rfl ?_
                  refine r_lload C 2 dX11_odds_148 rfl ?_
                  refine r_iload C 0 dX11_odds_150 rfl ?_
                  obtain ⟨r37, σ36, e38, hF⟩ := bd_e hF
                  refine r_callS_l (as := [vL y34, vL y35, vI a4]) (st := []) C dX11_odds_152 (s_X11_told G l e38) t_6_199 t_6_200 t_1_14 t_6_201 m_X11_told ⟨Nat.le_of_ble_eq_true rfl, Nat.le_of_ble_eq_true rfl⟩ ⟨rfl, rfl⟩ ⟨Nat.zero_le _, Nat.zero_le _⟩ rfl (Nat.le_of_ble_eq_true rfl) ?_
                  exact r_lreturn C dX11_odds_155 (rt_e hF)
              refine r_icmp_ne C 103 dX11_odds_96 (by decide)  (fun h39 => ?_) (fun h39 => ?_)
              · have hF := if_f h39 hF
                refine r_lconst (v := (0 : Int64)) C dX11_odds_103 rfl ?_
                refine r_drop (ls2 := [(0, vR (40, 0, 0)), (2, vI a2), (3, vI a3), (4, vI a4)]) [0, 2, 3, 4] rfl ?_
                exact hk25 _ _ hF
              · have hF := if_t h39 hF
                refine r_lconst (v := (1 : Int64)) C dX11_odds_99 rfl ?_
                refine r_goto C 104 dX11_odds_100 (by decide) ?_
                refine r_drop (ls2 := [(0, vR (40, 0, 0)), (2, vI a2), (3, vI a3), (4, vI a4)]) [0, 2, 3, 4] rfl ?_
                exact hk25 _ _ hF
          · have hF := if_t h40 hF
            refine r_ldc2_w (v := (-2 : Int64)) C dX11_odds_51 t_6_149 ?_
            exact r_lreturn C dX11_odds_54 (rt_e hF)
        · have hF := if_t h41 hF
          refine r_ldc2_w (v := (-1 : Int64)) C dX11_odds_37 t_6_148 ?_
          exact r_lreturn C dX11_odds_40 (rt_e hF)
def L_X11_cools_35 (c2 : Int32) (c3 : Int32) : Nat → Int32 → Int32 → Int32 → St → (Int32 → Int32 → St → Option (Int32 × St)) → Option (Int32 × St)
  | 0, _, _, _, _, _ => none
  | n + 1, v4, v5, v6, τ, kx114 =>
  (if v4 ≤ c2 then kx114 v5 v6 τ else ck (inb (1 : Int32) 9) (nam (fun (y11 : Int32) (σ13 : St) => bd (F_X11_flag y11 σ13) fun r15 σ14 => nam (v6 + r15) fun x17 => nam (fun (y18 : Int32) (σ20 : St) => nam (v4 - y18) fun x21 => nam (fun (y22 : Int32) (σ24 : St) => nam (v5 + (1 : Int32)) fun x25 => L_X11_cools_35 c2 c3 n y22 x25 x17 σ24 kx114) fun k23 => (if 0 ≤ x21 then k23 x21 σ20 else k23 (0 : Int32) σ20)) fun k19 => (if y11 = 0 then ck (inb (6 : Int32) 9) (ck (decide (¬ (σ14.1 (43, 0, 0) 6) = 0)) (k19 ((1 : Int32) + (v4 / (σ14.1 (43, 0, 0) 6))) σ14)) else k19 (1 : Int32) σ14)) fun k12 => (if v4 < (τ.1 (43, 0, 0) 1) then k12 (0 : Int32) τ else k12 (1 : Int32) τ)))
def F_X11_cools (a1 : Int32) (a2 : Int32) (a3 : Int32) (σ : St) : Option (Int32 × St) :=
  bd (F_X11_isHeat a1 σ) fun r2 σ1 => (if r2 = 0 then some ((-1 : Int32), σ1) else bd (F_X11_isHeat a2 σ1) fun r5 σ4 => (if r5 = 0 then some ((-1 : Int32), σ4) else bd (F_X11_in (a3.toInt64) (0 : Int64) (1 : Int64) σ4) fun r8 σ7 => (if r8 = 0 then some ((-1 : Int32), σ7) else L_X11_cools_35 a2 a3 FU a1 (0 : Int32) (0 : Int32) σ7 (fun (y33 : Int32) (y34 : Int32) (σ32 : St) => (if a3 = 0 then some (y33, σ32) else some (y34, σ32))))))
set_option maxRecDepth 20000 in
set_option maxHeartbeats 4000000 in
theorem l_X11_cools_35 {G : Gx} {p : Program} {l : Launch} {e : Env} {s : State} {m : MethodId} {args : Array Value} {below : List Frame} {meth : Method} {c : Code} (C : Cx G p s m args meth c (some .int) 8 RX11 cX11_cools) (c2 : Int32) (c3 : Int32) {σ' : St} {r : Int32} (kx114 : Int32 → Int32 → St → Option (Int32 × St)) (hkx114 : ∀ (w5 : Int32) (w6 : Int32) (τ : St), kx114 w5 w6 τ = some (r, σ') → Rt G p l e (lvl 2) s m args below meth c 0 0 (MQ below (va_Qi (fun a b => a = r ∧ b = σ') (Wd G) (AG G)) args s 0 0 (AG G)) 8 114 [(3, vI c3), (5, vI w5), (6, vI w6)] [] τ) : ∀ (n : Nat) (v4 : Int32) (v5 : Int32) (v6 : Int32) (τ : St), L_X11_cools_35 c2 c3 n v4 v5 v6 τ kx114 = some (r, σ') → Rt G p l e (lvl 2) s m args below meth c 0 0 (MQ below (va_Qi (fun a b => a = r ∧ b = σ') (Wd G) (AG G)) args s 0 0 (AG G)) 8 35 [(0, vR (40, 0, 0)), (2, vI c2), (3, vI c3), (4, vI v4), (5, vI v5), (6, vI v6)] [] τ := by
  intro n
  induction n with
  | zero => intro v4 v5 v6 τ hF; cases hF
  | succ n ih =>
    intro v4 v5 v6 τ hF
    unfold L_X11_cools_35 at hF
    refine r_iload C 3 dX11_cools_35 rfl ?_
    refine r_iload_n C 1 2 dX11_cools_37 rfl rfl ?_
    refine r_icmp_le C 114 dX11_cools_38 (by decide)  (fun h31 => ?_) (fun h31 => ?_)
    · have hF := if_t h31 hF
      refine r_drop (ls2 := [(3, vI c3), (5, vI v5), (6, vI v6)]) [2, 4, 5] rfl ?_
      exact hkx114 _ _ _ hF
    · have hF := if_f h31 hF
      refine r_iload C 3 dX11_cools_41 rfl ?_
      refine r_aload_n C 0 0 dX11_cools_43 rfl rfl ?_
      refine r_getR (kf := 2) (d2 := (43, 0, 0)) C dX11_cools_44 rfl rfl f_X11 (by decide) t_5_58 rfl rfl ?_
      refine r_iconst (v := (1 : Int32)) C dX11_cools_47 rfl ?_
      obtain ⟨h10, hF⟩ := ck_e hF
      refine r_iaload C 1 dX11_cools_48 rfl h10 rfl ?_
      obtain ⟨k12, ek12, hF⟩ := nam_e hF
      have hk12 : ∀ (y11 : Int32) (σ13 : St), k12 y11 σ13 = some (r, σ') → Rt G p l e (lvl 2) s m args below meth c 0 0 (MQ below (va_Qi (fun a b => a = r ∧ b = σ') (Wd G) (AG G)) args s 0 0 (AG G)) 8 57 [(0, vR (40, 0, 0)), (2, vI c2), (3, vI c3), (4, vI v4), (5, vI v5), (6, vI v6)] [vI y11] σ13 := by
        intro y11 σ13 hF
        subst ek12
        refine r_istore (ls2 := [(7, vI y11), (0, vR (40, 0, 0)), (2, vI c2), (3, vI c3), (4, vI v4), (5, vI v5), (6, vI v6)]) C dX11_cools_57 (by decide) rfl ?_
        refine r_iload C 6 dX11_cools_59 rfl ?_
        refine r_iload C 0 dX11_cools_61 rfl ?_
        obtain ⟨r15, σ14, e16, hF⟩ := bd_e hF
        refine r_callS_i (as := [vI y11]) (st := [vI v6]) C dX11_cools_63 (s_X11_flag G l e16) t_5_195 t_5_196 t_1_14 t_5_197 m_X11_flag ⟨Nat.le_of_ble_eq_true rfl, Nat.le_of_ble_eq_true rfl⟩ ⟨rfl, rfl⟩ ⟨Nat.zero_le _, Nat.zero_le _⟩ rfl (Nat.le_of_ble_eq_true rfl) ?_
        refine r_iadd C dX11_cools_66 ?_
        obtain ⟨x17, ex17, hF⟩ := nam_e hF
        refine r_topI ex17 ?_
        refine r_istore (ls2 := [(6, vI x17), (7, vI y11), (0, vR (40, 0, 0)), (2, vI c2), (3, vI c3), (4, vI v4), (5, vI v5)]) C dX11_cools_67 (by decide) rfl ?_
        refine r_iload C 5 dX11_cools_69 rfl ?_
        refine r_iload C 1 dX11_cools_71 rfl ?_
        obtain ⟨k19, ek19, hF⟩ := nam_e hF
        have hk19 : ∀ (y18 : Int32) (σ20 : St), k19 y18 σ20 = some (r, σ') → Rt G p l e (lvl 2) s m args below meth c 0 0 (MQ below (va_Qi (fun a b => a = r ∧ b = σ') (Wd G) (AG G)) args s 0 0 (AG G)) 8 92 [(0, vR (40, 0, 0)), (2, vI c2), (3, vI c3), (5, vI v5), (6, vI x17)] [vI y18, vI v4] σ20 := by
          intro y18 σ20 hF
          subst ek19
          refine r_isub C dX11_cools_92 ?_
          obtain ⟨x21, ex21, hF⟩ := nam_e hF
          refine r_topI ex21 ?_
          refine r_istore (ls2 := [(4, vI x21), (0, vR (40, 0, 0)), (2, vI c2), (3, vI c3), (5, vI v5), (6, vI x17)]) C dX11_cools_93 (by decide) rfl ?_
          refine r_iload C 0 dX11_cools_95 rfl ?_
          obtain ⟨k23, ek23, hF⟩ := nam_e hF
          have hk23 : ∀ (y22 : Int32) (σ24 : St), k23 y22 σ24 = some (r, σ') → Rt G p l e (lvl 2) s m args below meth c 0 0 (MQ below (va_Qi (fun a b => a = r ∧ b = σ') (Wd G) (AG G)) args s 0 0 (AG G)) 8 106 [(0, vR (40, 0, 0)), (2, vI c2), (3, vI c3), (5, vI v5), (6, vI x17)] [vI y22] σ24 := by
            intro y22 σ24 hF
            subst ek23
            refine r_istore (ls2 := [(4, vI y22), (0, vR (40, 0, 0)), (2, vI c2), (3, vI c3), (5, vI v5), (6, vI x17)]) C dX11_cools_106 (by decide) rfl ?_
            obtain ⟨x25, ex25, hF⟩ := nam_e hF
            refine r_iinc (v := x25) (ls2 := [(5, vI x25), (4, vI y22), (0, vR (40, 0, 0)), (2, vI c2), (3, vI c3), (6, vI x17)]) C 4 dX11_cools_108 rfl ex25.symm (by decide) rfl ?_
            refine r_goto C 35 dX11_cools_111 (by decide) ?_
            refine r_drop (ls2 := [(0, vR (40, 0, 0)), (2, vI c2), (3, vI c3), (4, vI y22), (5, vI x25), (6, vI x17)]) [2, 3, 4, 1, 0, 5] rfl ?_
            exact ih _ _ _ _ hF
          refine r_if_ge C 104 dX11_cools_97 (by decide)  (fun h26 => ?_) (fun h26 => ?_)
          · have hF := if_t h26 hF
            refine r_iload C 0 dX11_cools_104 rfl ?_
            refine r_drop (ls2 := [(0, vR (40, 0, 0)), (2, vI c2), (3, vI c3), (5, vI v5), (6, vI x17)]) [1, 2, 3, 4, 5] rfl ?_
            exact hk23 _ _ hF
          · have hF := if_f h26 hF
            refine r_iconst (v := (0 : Int32)) C dX11_cools_100 rfl ?_
            refine r_goto C 106 dX11_cools_101 (by decide) ?_
            refine r_drop (ls2 := [(0, vR (40, 0, 0)), (2, vI c2), (3, vI c3), (5, vI v5), (6, vI x17)]) [1, 2, 3, 4, 5] rfl ?_
            exact hk23 _ _ hF
        refine r_if_eq C 80 dX11_cools_73 (by decide)  (fun h29 => ?_) (fun h29 => ?_)
        · have hF := if_t h29 hF
          refine r_iconst (v := (1 : Int32)) C dX11_cools_80 rfl ?_
          refine r_iload C 5 dX11_cools_81 rfl ?_
          refine r_aload_n C 2 0 dX11_cools_83 rfl rfl ?_
          refine r_getR (kf := 2) (d2 := (43, 0, 0)) C dX11_cools_84 rfl rfl f_X11 (by decide) t_5_58 rfl rfl ?_
          refine r_bipush (v := (6 : Int32)) C dX11_cools_87 rfl ?_
          obtain ⟨h27, hF⟩ := ck_e hF
          refine r_iaload C 6 dX11_cools_89 rfl h27 rfl ?_
          obtain ⟨h28, hF⟩ := ck_e hF
          refine r_idiv C dX11_cools_90 (nz h28) ?_
          refine r_iadd C dX11_cools_91 ?_
          refine r_drop (ls2 := [(0, vR (40, 0, 0)), (2, vI c2), (3, vI c3), (5, vI v5), (6, vI x17)]) [2, 3, 4, 6, 0] rfl ?_
          exact hk19 _ _ hF
        · have hF := if_f h29 hF
          refine r_iconst (v := (1 : Int32)) C dX11_cools_76 rfl ?_
          refine r_goto C 92 dX11_cools_77 (by decide) ?_
          refine r_drop (ls2 := [(0, vR (40, 0, 0)), (2, vI c2), (3, vI c3), (5, vI v5), (6, vI x17)]) [2, 3, 4, 6, 0] rfl ?_
          exact hk19 _ _ hF
      refine r_icmp_lt C 56 dX11_cools_49 (by decide)  (fun h30 => ?_) (fun h30 => ?_)
      · have hF := if_t h30 hF
        refine r_iconst (v := (0 : Int32)) C dX11_cools_56 rfl ?_
        exact hk12 _ _ hF
      · have hF := if_f h30 hF
        refine r_iconst (v := (1 : Int32)) C dX11_cools_52 rfl ?_
        refine r_goto C 57 dX11_cools_53 (by decide) ?_
        exact hk12 _ _ hF
set_option maxRecDepth 20000 in
set_option maxHeartbeats 4000000 in
theorem s_X11_cools (G : Gx) (l : Launch) {a1 : Int32} {a2 : Int32} {a3 : Int32} {σ σ' : St} {r : Int32} (hF : F_X11_cools a1 a2 a3 σ = some (r, σ')) : Sp G l yX11_cools cX11_cools 8 (some .int) (lvl 2) [vR (40, 0, 0), vI a1, vI a2, vI a3] σ (va_Qi (fun a b => a = r ∧ b = σ') (Wd G) (AG G)) := by
  refine Sp_of (own := RX11) (by decide) rfl (Nat.le_of_ble_eq_true rfl) ?_
  intro p e s m args below meth c C
  show Rt G p l e (lvl 2) s m args below meth c 0 0 (MQ below (va_Qi (fun a b => a = r ∧ b = σ') (Wd G) (AG G)) args s 0 0 (AG G)) 8 0 [(0, vR (40, 0, 0)), (1, vI a1), (2, vI a2), (3, vI a3)] [] σ
  unfold F_X11_cools at hF
  refine r_iload_n C 1 1 dX11_cools_0 rfl rfl ?_
  obtain ⟨r2, σ1, e3, hF⟩ := bd_e hF
  refine r_callS_i (as := [vI a1]) (st := []) C dX11_cools_1 (s_X11_isHeat G l e3) t_6_161 t_6_162 t_1_14 t_6_163 m_X11_isHeat ⟨Nat.le_of_ble_eq_true rfl, Nat.le_of_ble_eq_true rfl⟩ ⟨rfl, rfl⟩ ⟨Nat.zero_le _, Nat.zero_le _⟩ rfl (Nat.le_of_ble_eq_true rfl) ?_
  refine r_if_eq C 24 dX11_cools_4 (by decide)  (fun h38 => ?_) (fun h38 => ?_)
  · have hF := if_t h38 hF
    refine r_iconst (v := (-1 : Int32)) C dX11_cools_24 rfl ?_
    exact r_ireturn C dX11_cools_25 (rt_e hF)
  · have hF := if_f h38 hF
    refine r_iload_n C 2 2 dX11_cools_7 rfl rfl ?_
    obtain ⟨r5, σ4, e6, hF⟩ := bd_e hF
    refine r_callS_i (as := [vI a2]) (st := []) C dX11_cools_8 (s_X11_isHeat G l e6) t_6_161 t_6_162 t_1_14 t_6_163 m_X11_isHeat ⟨Nat.le_of_ble_eq_true rfl, Nat.le_of_ble_eq_true rfl⟩ ⟨rfl, rfl⟩ ⟨Nat.zero_le _, Nat.zero_le _⟩ rfl (Nat.le_of_ble_eq_true rfl) ?_
    refine r_if_eq C 24 dX11_cools_11 (by decide)  (fun h37 => ?_) (fun h37 => ?_)
    · have hF := if_t h37 hF
      refine r_iconst (v := (-1 : Int32)) C dX11_cools_24 rfl ?_
      exact r_ireturn C dX11_cools_25 (rt_e hF)
    · have hF := if_f h37 hF
      refine r_iload_n C 3 3 dX11_cools_14 rfl rfl ?_
      refine r_i2l C dX11_cools_15 ?_
      refine r_lconst (v := (0 : Int64)) C dX11_cools_16 rfl ?_
      refine r_lconst (v := (1 : Int64)) C dX11_cools_17 rfl ?_
      obtain ⟨r8, σ7, e9, hF⟩ := bd_e hF
      refine r_callS_i (as := [vL (a3.toInt64), vL (0 : Int64), vL (1 : Int64)]) (st := []) C dX11_cools_18 (s_X11_in G l e9) t_5_153 t_5_154 t_1_14 t_5_155 m_X11_in ⟨Nat.le_of_ble_eq_true rfl, Nat.le_of_ble_eq_true rfl⟩ ⟨rfl, rfl⟩ ⟨Nat.zero_le _, Nat.zero_le _⟩ rfl (Nat.le_of_ble_eq_true rfl) ?_
      refine r_if_ne C 26 dX11_cools_21 (by decide)  (fun h36 => ?_) (fun h36 => ?_)
      · have hF := if_f h36 hF
        refine r_iload_n C 1 1 dX11_cools_26 rfl rfl ?_
        refine r_istore (ls2 := [(4, vI a1), (0, vR (40, 0, 0)), (1, vI a1), (2, vI a2), (3, vI a3)]) C dX11_cools_27 (by decide) rfl ?_
        refine r_iconst (v := (0 : Int32)) C dX11_cools_29 rfl ?_
        refine r_istore (ls2 := [(5, vI (0 : Int32)), (4, vI a1), (0, vR (40, 0, 0)), (1, vI a1), (2, vI a2), (3, vI a3)]) C dX11_cools_30 (by decide) rfl ?_
        refine r_iconst (v := (0 : Int32)) C dX11_cools_32 rfl ?_
        refine r_istore (ls2 := [(6, vI (0 : Int32)), (5, vI (0 : Int32)), (4, vI a1), (0, vR (40, 0, 0)), (1, vI a1), (2, vI a2), (3, vI a3)]) C dX11_cools_33 (by decide) rfl ?_
        refine r_drop (ls2 := [(0, vR (40, 0, 0)), (2, vI a2), (3, vI a3), (4, vI a1), (5, vI (0 : Int32)), (6, vI (0 : Int32))]) [3, 5, 6, 2, 1, 0] rfl ?_
        refine l_X11_cools_35 C a2 a3 _ ?_ _ _ _ _ _ hF
        · intro y33 y34 σ32 hF
          refine r_iload_n C 0 3 dX11_cools_114 rfl rfl ?_
          refine r_if_ne C 123 dX11_cools_115 (by decide)  (fun h35 => ?_) (fun h35 => ?_)
          · have hF := if_f h35 hF
            refine r_iload C 2 dX11_cools_123 rfl ?_
            exact r_ireturn C dX11_cools_125 (rt_e hF)
          · have hF := if_t h35 hF
            refine r_iload C 1 dX11_cools_118 rfl ?_
            refine r_goto C 125 dX11_cools_120 (by decide) ?_
            exact r_ireturn C dX11_cools_125 (rt_e hF)
      · have hF := if_t h36 hF
        refine r_iconst (v := (-1 : Int32)) C dX11_cools_24 rfl ?_
        exact r_ireturn C dX11_cools_25 (rt_e hF)
def F_X11_saw (a1 : Int32) (a2 : Int32) (a3 : Int32) (a4 : Int32) (σ : St) : Option (Int32 × St) :=
  bd (F_X11_isSize a1 σ) fun r2 σ1 => (if r2 = 0 then some ((-1 : Int32), σ1) else bd (F_X11_isHeat a2 σ1) fun r5 σ4 => (if r5 = 0 then some ((-1 : Int32), σ4) else bd (F_X11_isLife a4 σ4) fun r8 σ7 => (if r8 = 0 then some ((-1 : Int32), σ7) else (if (σ7.1 (40, 0, 0) 23) = (12 : Int32) then some ((-3 : Int32), σ7) else ck (inb ((4 : Int32) * (σ7.1 (40, 0, 0) 23)) 48) (nam (uI σ7 (51, 0, 0) (((4 : Int32) * (σ7.1 (40, 0, 0) 23)).toNatClampNeg) a1) fun σ11 => ck (inb (((4 : Int32) * (σ11.1 (40, 0, 0) 23)) + (1 : Int32)) 48) (nam (uI σ11 (51, 0, 0) ((((4 : Int32) * (σ11.1 (40, 0, 0) 23)) + (1 : Int32)).toNatClampNeg) a2) fun σ13 => bd (F_X11_flag a3 σ13) fun r15 σ14 => ck (inb (((4 : Int32) * (σ13.1 (40, 0, 0) 23)) + (2 : Int32)) 48) (nam (uI σ14 (51, 0, 0) ((((4 : Int32) * (σ13.1 (40, 0, 0) 23)) + (2 : Int32)).toNatClampNeg) r15) fun σ18 => ck (inb (((4 : Int32) * (σ18.1 (40, 0, 0) 23)) + (3 : Int32)) 48) (nam (uI σ18 (51, 0, 0) ((((4 : Int32) * (σ18.1 (40, 0, 0) 23)) + (3 : Int32)).toNatClampNeg) a4) fun σ20 => nam (uI σ20 (40, 0, 0) 23 ((σ20.1 (40, 0, 0) 23) + (1 : Int32))) fun σ21 => some (σ21.1 (40, 0, 0) 23, σ21)))))))))
set_option maxRecDepth 20000 in
set_option maxHeartbeats 4000000 in
theorem s_X11_saw (G : Gx) (l : Launch) {a1 : Int32} {a2 : Int32} {a3 : Int32} {a4 : Int32} {σ σ' : St} {r : Int32} (hF : F_X11_saw a1 a2 a3 a4 σ = some (r, σ')) : Sp G l yX11_saw cX11_saw 5 (some .int) (lvl 2) [vR (40, 0, 0), vI a1, vI a2, vI a3, vI a4] σ (va_Qi (fun a b => a = r ∧ b = σ') (Wd G) (AG G)) := by
  refine Sp_of (own := RX11) (by decide) rfl (Nat.le_of_ble_eq_true rfl) ?_
  intro p e s m args below meth c C
  show Rt G p l e (lvl 2) s m args below meth c 0 0 (MQ below (va_Qi (fun a b => a = r ∧ b = σ') (Wd G) (AG G)) args s 0 0 (AG G)) 5 0 [(0, vR (40, 0, 0)), (1, vI a1), (2, vI a2), (3, vI a3), (4, vI a4)] [] σ
  unfold F_X11_saw at hF
  refine r_iload_n C 1 1 dX11_saw_0 rfl rfl ?_
  obtain ⟨r2, σ1, e3, hF⟩ := bd_e hF
  refine r_callS_i (as := [vI a1]) (st := []) C dX11_saw_1 (s_X11_isSize G l e3) t_6_158 t_6_159 t_1_14 t_6_160 m_X11_isSize ⟨Nat.le_of_ble_eq_true rfl, Nat.le_of_ble_eq_true rfl⟩ ⟨rfl, rfl⟩ ⟨Nat.zero_le _, Nat.zero_le _⟩ rfl (Nat.le_of_ble_eq_true rfl) ?_
  refine r_if_eq C 22 dX11_saw_4 (by decide)  (fun h25 => ?_) (fun h25 => ?_)
  · have hF := if_t h25 hF
    refine r_iconst (v := (-1 : Int32)) C dX11_saw_22 rfl ?_
    exact r_ireturn C dX11_saw_23 (rt_e hF)
  · have hF := if_f h25 hF
    refine r_iload_n C 2 2 dX11_saw_7 rfl rfl ?_
    obtain ⟨r5, σ4, e6, hF⟩ := bd_e hF
    refine r_callS_i (as := [vI a2]) (st := []) C dX11_saw_8 (s_X11_isHeat G l e6) t_6_161 t_6_162 t_1_14 t_6_163 m_X11_isHeat ⟨Nat.le_of_ble_eq_true rfl, Nat.le_of_ble_eq_true rfl⟩ ⟨rfl, rfl⟩ ⟨Nat.zero_le _, Nat.zero_le _⟩ rfl (Nat.le_of_ble_eq_true rfl) ?_
    refine r_if_eq C 22 dX11_saw_11 (by decide)  (fun h24 => ?_) (fun h24 => ?_)
    · have hF := if_t h24 hF
      refine r_iconst (v := (-1 : Int32)) C dX11_saw_22 rfl ?_
      exact r_ireturn C dX11_saw_23 (rt_e hF)
    · have hF := if_f h24 hF
      refine r_iload C 4 dX11_saw_14 rfl ?_
      obtain ⟨r8, σ7, e9, hF⟩ := bd_e hF
      refine r_callS_i (as := [vI a4]) (st := []) C dX11_saw_16 (s_X11_isLife G l e9) t_6_185 t_6_186 t_1_14 t_6_187 m_X11_isLife ⟨Nat.le_of_ble_eq_true rfl, Nat.le_of_ble_eq_true rfl⟩ ⟨rfl, rfl⟩ ⟨Nat.zero_le _, Nat.zero_le _⟩ rfl (Nat.le_of_ble_eq_true rfl) ?_
      refine r_if_ne C 24 dX11_saw_19 (by decide)  (fun h23 => ?_) (fun h23 => ?_)
      · have hF := if_f h23 hF
        refine r_aload_n C 0 0 dX11_saw_24 rfl rfl ?_
        refine r_getI (kf := 23) C dX11_saw_25 rfl rfl f_X11 (by decide) t_5_79 rfl ?_
        refine r_bipush (v := (12 : Int32)) C dX11_saw_28 rfl ?_
        refine r_icmp_ne C 36 dX11_saw_30 (by decide)  (fun h22 => ?_) (fun h22 => ?_)
        · have hF := if_f h22 hF
          refine r_aload_n C 0 0 dX11_saw_36 rfl rfl ?_
          refine r_getR (kf := 24) (d2 := (51, 0, 0)) C dX11_saw_37 rfl rfl f_X11 (by decide) t_5_80 rfl rfl ?_
          refine r_iconst (v := (4 : Int32)) C dX11_saw_40 rfl ?_
          refine r_aload_n C 0 0 dX11_saw_41 rfl rfl ?_
          refine r_getI (kf := 23) C dX11_saw_42 rfl rfl f_X11 (by decide) t_5_79 rfl ?_
          refine r_imul C dX11_saw_45 ?_
          refine r_iload_n C 1 1 dX11_saw_46 rfl rfl ?_
          obtain ⟨h10, hF⟩ := ck_e hF
          obtain ⟨σ11, eσ11, hF⟩ := nam_e hF
          refine r_iastore C (((4 : Int32) * (σ7.1 (40, 0, 0) 23)).toNatClampNeg) dX11_saw_47 rfl h10 rfl eσ11 ?_
          refine r_aload_n C 0 0 dX11_saw_48 rfl rfl ?_
          refine r_getR (kf := 24) (d2 := (51, 0, 0)) C dX11_saw_49 rfl rfl f_X11 (by decide) t_5_80 rfl rfl ?_
          refine r_iconst (v := (4 : Int32)) C dX11_saw_52 rfl ?_
          refine r_aload_n C 0 0 dX11_saw_53 rfl rfl ?_
          refine r_getI (kf := 23) C dX11_saw_54 rfl rfl f_X11 (by decide) t_5_79 rfl ?_
          refine r_imul C dX11_saw_57 ?_
          refine r_iconst (v := (1 : Int32)) C dX11_saw_58 rfl ?_
          refine r_iadd C dX11_saw_59 ?_
          refine r_iload_n C 2 2 dX11_saw_60 rfl rfl ?_
          obtain ⟨h12, hF⟩ := ck_e hF
          obtain ⟨σ13, eσ13, hF⟩ := nam_e hF
          refine r_iastore C ((((4 : Int32) * (σ11.1 (40, 0, 0) 23)) + (1 : Int32)).toNatClampNeg) dX11_saw_61 rfl h12 rfl eσ13 ?_
          refine r_aload_n C 0 0 dX11_saw_62 rfl rfl ?_
          refine r_getR (kf := 24) (d2 := (51, 0, 0)) C dX11_saw_63 rfl rfl f_X11 (by decide) t_5_80 rfl rfl ?_
          refine r_iconst (v := (4 : Int32)) C dX11_saw_66 rfl ?_
          refine r_aload_n C 0 0 dX11_saw_67 rfl rfl ?_
          refine r_getI (kf := 23) C dX11_saw_68 rfl rfl f_X11 (by decide) t_5_79 rfl ?_
          refine r_imul C dX11_saw_71 ?_
          refine r_iconst (v := (2 : Int32)) C dX11_saw_72 rfl ?_
          refine r_iadd C dX11_saw_73 ?_
          refine r_iload_n C 3 3 dX11_saw_74 rfl rfl ?_
          obtain ⟨r15, σ14, e16, hF⟩ := bd_e hF
          refine r_callS_i (as := [vI a3]) (st := [vI (((4 : Int32) * (σ13.1 (40, 0, 0) 23)) + (2 : Int32)), vR (51, 0, 0)]) C dX11_saw_75 (s_X11_flag G l e16) t_5_195 t_5_196 t_1_14 t_5_197 m_X11_flag ⟨Nat.le_of_ble_eq_true rfl, Nat.le_of_ble_eq_true rfl⟩ ⟨rfl, rfl⟩ ⟨Nat.zero_le _, Nat.zero_le _⟩ rfl (Nat.le_of_ble_eq_true rfl) ?_
          obtain ⟨h17, hF⟩ := ck_e hF
          obtain ⟨σ18, eσ18, hF⟩ := nam_e hF
          refine r_iastore C ((((4 : Int32) * (σ13.1 (40, 0, 0) 23)) + (2 : Int32)).toNatClampNeg) dX11_saw_78 rfl h17 rfl eσ18 ?_
          refine r_aload_n C 0 0 dX11_saw_79 rfl rfl ?_
          refine r_getR (kf := 24) (d2 := (51, 0, 0)) C dX11_saw_80 rfl rfl f_X11 (by decide) t_5_80 rfl rfl ?_
          refine r_iconst (v := (4 : Int32)) C dX11_saw_83 rfl ?_
          refine r_aload_n C 0 0 dX11_saw_84 rfl rfl ?_
          refine r_getI (kf := 23) C dX11_saw_85 rfl rfl f_X11 (by decide) t_5_79 rfl ?_
          refine r_imul C dX11_saw_88 ?_
          refine r_iconst (v := (3 : Int32)) C dX11_saw_89 rfl ?_
          refine r_iadd C dX11_saw_90 ?_
          refine r_iload C 4 dX11_saw_91 rfl ?_
          obtain ⟨h19, hF⟩ := ck_e hF
          obtain ⟨σ20, eσ20, hF⟩ := nam_e hF
          refine r_iastore C ((((4 : Int32) * (σ18.1 (40, 0, 0) 23)) + (3 : Int32)).toNatClampNeg) dX11_saw_93 rfl h19 rfl eσ20 ?_
          refine r_aload_n C 0 0 dX11_saw_94 rfl rfl ?_
          refine r_dup_r C dX11_saw_95 ?_
          refine r_getI (kf := 23) C dX11_saw_96 rfl rfl f_X11 (by decide) t_5_79 rfl ?_
          refine r_iconst (v := (1 : Int32)) C dX11_saw_99 rfl ?_
          refine r_iadd C dX11_saw_100 ?_
          obtain ⟨σ21, eσ21, hF⟩ := nam_e hF
          refine r_put (kf := 23) (ty0 := tyX11) C dX11_saw_101 rfl rfl f_X11 tyX11_ok nmX11 (by decide) t_5_79 rfl rfl rfl rfl eσ21 ?_
          refine r_aload_n C 0 0 dX11_saw_104 rfl rfl ?_
          refine r_getI (kf := 23) C dX11_saw_105 rfl rfl f_X11 (by decide) t_5_79 rfl ?_
          exact r_ireturn C dX11_saw_108 (rt_e hF)
        · have hF := if_t h22 hF
          refine r_bipush (v := (-3 : Int32)) C dX11_saw_33 rfl ?_
          exact r_ireturn C dX11_saw_35 (rt_e hF)
      · have hF := if_t h23 hF
        refine r_iconst (v := (-1 : Int32)) C dX11_saw_22 rfl ?_
        exact r_ireturn C dX11_saw_23 (rt_e hF)
def F_X11_forget  (σ : St) : Option (Int32 × St) :=
  nam (σ.1 (40, 0, 0) 23) fun x1 => nam (uI σ (40, 0, 0) 23 (0 : Int32)) fun σ2 => some (x1, σ2)
set_option maxRecDepth 20000 in
set_option maxHeartbeats 4000000 in
theorem s_X11_forget (G : Gx) (l : Launch)  {σ σ' : St} {r : Int32} (hF : F_X11_forget  σ = some (r, σ')) : Sp G l yX11_forget cX11_forget 2 (some .int) (lvl 0) [vR (40, 0, 0)] σ (va_Qi (fun a b => a = r ∧ b = σ') (Wd G) (AG G)) := by
  refine Sp_of (own := RX11) (by decide) rfl (Nat.le_of_ble_eq_true rfl) ?_
  intro p e s m args below meth c C
  show Rt G p l e (lvl 0) s m args below meth c 0 0 (MQ below (va_Qi (fun a b => a = r ∧ b = σ') (Wd G) (AG G)) args s 0 0 (AG G)) 2 0 [(0, vR (40, 0, 0))] [] σ
  unfold F_X11_forget at hF
  refine r_aload_n C 0 0 dX11_forget_0 rfl rfl ?_
  refine r_getI (kf := 23) C dX11_forget_1 rfl rfl f_X11 (by decide) t_5_79 rfl ?_
  obtain ⟨x1, ex1, hF⟩ := nam_e hF
  refine r_topI ex1 ?_
  refine r_istore_n (ls2 := [(1, vI x1), (0, vR (40, 0, 0))]) C dX11_forget_4 1 rfl (by decide) rfl ?_
  refine r_aload_n C 1 0 dX11_forget_5 rfl rfl ?_
  refine r_iconst (v := (0 : Int32)) C dX11_forget_6 rfl ?_
  obtain ⟨σ2, eσ2, hF⟩ := nam_e hF
  refine r_put (kf := 23) (ty0 := tyX11) C dX11_forget_7 rfl rfl f_X11 tyX11_ok nmX11 (by decide) t_5_79 rfl rfl rfl rfl eσ2 ?_
  refine r_iload_n C 0 1 dX11_forget_10 rfl rfl ?_
  exact r_ireturn C dX11_forget_11 (rt_e hF)
def F_X11_isRight (a1 : Int32) (σ : St) : Option (Int32 × St) :=
  ck (inb ((4 : Int32) * a1) 48) (ck (inb (((4 : Int32) * a1) + (1 : Int32)) 48) (ck (inb (((4 : Int32) * a1) + (2 : Int32)) 48) (nam (fun (y4 : Int32) (σ6 : St) => bd (F_X11_lifeAt (σ.1 (51, 0, 0) (((4 : Int32) * a1).toNatClampNeg)) (σ.1 (51, 0, 0) ((((4 : Int32) * a1) + (1 : Int32)).toNatClampNeg)) y4 σ6) fun r8 σ7 => ck (inb (((4 : Int32) * a1) + (3 : Int32)) 48) ((if r8 = (σ7.1 (51, 0, 0) ((((4 : Int32) * a1) + (3 : Int32)).toNatClampNeg)) then some ((1 : Int32), σ7) else some ((0 : Int32), σ7)))) fun k5 => (if (σ.1 (51, 0, 0) ((((4 : Int32) * a1) + (2 : Int32)).toNatClampNeg)) = (1 : Int32) then k5 (1 : Int32) σ else k5 (0 : Int32) σ))))
set_option maxRecDepth 20000 in
set_option maxHeartbeats 4000000 in
theorem s_X11_isRight (G : Gx) (l : Launch) {a1 : Int32} {σ σ' : St} {r : Int32} (hF : F_X11_isRight a1 σ = some (r, σ')) : Sp G l yX11_isRight cX11_isRight 2 (some .boolean) (lvl 4) [vR (40, 0, 0), vI a1] σ (va_Qi (fun a b => a = r ∧ b = σ') (Wd G) (AG G)) := by
  refine Sp_of (own := RX11) (by decide) rfl (Nat.le_of_ble_eq_true rfl) ?_
  intro p e s m args below meth c C
  show Rt G p l e (lvl 4) s m args below meth c 0 0 (MQ below (va_Qi (fun a b => a = r ∧ b = σ') (Wd G) (AG G)) args s 0 0 (AG G)) 2 0 [(0, vR (40, 0, 0)), (1, vI a1)] [] σ
  unfold F_X11_isRight at hF
  refine r_aload_n C 0 0 dX11_isRight_0 rfl rfl ?_
  refine r_aload_n C 0 0 dX11_isRight_1 rfl rfl ?_
  refine r_getR (kf := 24) (d2 := (51, 0, 0)) C dX11_isRight_2 rfl rfl f_X11 (by decide) t_5_80 rfl rfl ?_
  refine r_iconst (v := (4 : Int32)) C dX11_isRight_5 rfl ?_
  refine r_iload_n C 1 1 dX11_isRight_6 rfl rfl ?_
  refine r_imul C dX11_isRight_7 ?_
  obtain ⟨h1, hF⟩ := ck_e hF
  refine r_iaload C (((4 : Int32) * a1).toNatClampNeg) dX11_isRight_8 rfl h1 rfl ?_
  refine r_aload_n C 0 0 dX11_isRight_9 rfl rfl ?_
  refine r_getR (kf := 24) (d2 := (51, 0, 0)) C dX11_isRight_10 rfl rfl f_X11 (by decide) t_5_80 rfl rfl ?_
  refine r_iconst (v := (4 : Int32)) C dX11_isRight_13 rfl ?_
  refine r_iload_n C 1 1 dX11_isRight_14 rfl rfl ?_
  refine r_imul C dX11_isRight_15 ?_
  refine r_iconst (v := (1 : Int32)) C dX11_isRight_16 rfl ?_
  refine r_iadd C dX11_isRight_17 ?_
  obtain ⟨h2, hF⟩ := ck_e hF
  refine r_iaload C ((((4 : Int32) * a1) + (1 : Int32)).toNatClampNeg) dX11_isRight_18 rfl h2 rfl ?_
  refine r_aload_n C 0 0 dX11_isRight_19 rfl rfl ?_
  refine r_getR (kf := 24) (d2 := (51, 0, 0)) C dX11_isRight_20 rfl rfl f_X11 (by decide) t_5_80 rfl rfl ?_
  refine r_iconst (v := (4 : Int32)) C dX11_isRight_23 rfl ?_
  refine r_iload_n C 1 1 dX11_isRight_24 rfl rfl ?_
  refine r_imul C dX11_isRight_25 ?_
  refine r_iconst (v := (2 : Int32)) C dX11_isRight_26 rfl ?_
  refine r_iadd C dX11_isRight_27 ?_
  obtain ⟨h3, hF⟩ := ck_e hF
  refine r_iaload C ((((4 : Int32) * a1) + (2 : Int32)).toNatClampNeg) dX11_isRight_28 rfl h3 rfl ?_
  refine r_iconst (v := (1 : Int32)) C dX11_isRight_29 rfl ?_
  obtain ⟨k5, ek5, hF⟩ := nam_e hF
  have hk5 : ∀ (y4 : Int32) (σ6 : St), k5 y4 σ6 = some (r, σ') → Rt G p l e (lvl 4) s m args below meth c 0 0 (MQ below (va_Qi (fun a b => a = r ∧ b = σ') (Wd G) (AG G)) args s 0 0 (AG G)) 2 38 [(0, vR (40, 0, 0)), (1, vI a1)] [vI y4, vI (σ.1 (51, 0, 0) ((((4 : Int32) * a1) + (1 : Int32)).toNatClampNeg)), vI (σ.1 (51, 0, 0) (((4 : Int32) * a1).toNatClampNeg)), vR (40, 0, 0)] σ6 := by
    intro y4 σ6 hF
    subst ek5
    obtain ⟨r8, σ7, e9, hF⟩ := bd_e hF
    refine r_callV_i (as := [vI (σ.1 (51, 0, 0) (((4 : Int32) * a1).toNatClampNeg)), vI (σ.1 (51, 0, 0) ((((4 : Int32) * a1) + (1 : Int32)).toNatClampNeg)), vI y4]) (st := []) C dX11_isRight_38 (s_X11_lifeAt G l e9) rfl rfl rfl t_6_164 t_6_166 t_s_53 t_1_14 t_6_167 m_X11_lifeAt ⟨Nat.le_of_ble_eq_true rfl, Nat.le_of_ble_eq_true rfl⟩ ⟨rfl, rfl⟩ ⟨Nat.zero_le _, Nat.zero_le _⟩ rfl (Nat.le_of_ble_eq_true rfl) ?_
    refine r_aload_n C 0 0 dX11_isRight_41 rfl rfl ?_
    refine r_getR (kf := 24) (d2 := (51, 0, 0)) C dX11_isRight_42 rfl rfl f_X11 (by decide) t_5_80 rfl rfl ?_
    refine r_iconst (v := (4 : Int32)) C dX11_isRight_45 rfl ?_
    refine r_iload_n C 1 1 dX11_isRight_46 rfl rfl ?_
    refine r_imul C dX11_isRight_47 ?_
    refine r_iconst (v := (3 : Int32)) C dX11_isRight_48 rfl ?_
    refine r_iadd C dX11_isRight_49 ?_
    obtain ⟨h10, hF⟩ := ck_e hF
    refine r_iaload C ((((4 : Int32) * a1) + (3 : Int32)).toNatClampNeg) dX11_isRight_50 rfl h10 rfl ?_
    refine r_icmp_ne C 58 dX11_isRight_51 (by decide)  (fun h11 => ?_) (fun h11 => ?_)
    · have hF := if_f h11 hF
      refine r_iconst (v := (0 : Int32)) C dX11_isRight_58 rfl ?_
      exact r_zreturn C dX11_isRight_59 (nar_z (Or.inl rfl)) (rt_e hF)
    · have hF := if_t h11 hF
      refine r_iconst (v := (1 : Int32)) C dX11_isRight_54 rfl ?_
      refine r_goto C 59 dX11_isRight_55 (by decide) ?_
      exact r_zreturn C dX11_isRight_59 (nar_z (Or.inr rfl)) (rt_e hF)
  refine r_icmp_ne C 37 dX11_isRight_30 (by decide)  (fun h12 => ?_) (fun h12 => ?_)
  · have hF := if_f h12 hF
    refine r_iconst (v := (0 : Int32)) C dX11_isRight_37 rfl ?_
    exact hk5 _ _ hF
  · have hF := if_t h12 hF
    refine r_iconst (v := (1 : Int32)) C dX11_isRight_33 rfl ?_
    refine r_goto C 38 dX11_isRight_34 (by decide) ?_
    exact hk5 _ _ hF
def L_X11_right_4  : Nat → Int32 → Int32 → St → Option (Int32 × St)
  | 0, _, _, _ => none
  | n + 1, v1, v2, τ =>
  (if (τ.1 (40, 0, 0) 23) ≤ v2 then some (v1, τ) else bd (F_X11_isRight v2 τ) fun r2 σ1 => nam (fun (y4 : Int32) (σ6 : St) => nam (v1 ||| y4) fun x7 => nam (v2 + (1 : Int32)) fun x8 => L_X11_right_4 n x7 x8 σ6) fun k5 => (if r2 = 0 then k5 (0 : Int32) σ1 else k5 ((1 : Int32) <<< (v2 &&& 31)) σ1))
def F_X11_right  (σ : St) : Option (Int32 × St) :=
  L_X11_right_4  FU (0 : Int32) (0 : Int32) σ 
set_option maxRecDepth 20000 in
set_option maxHeartbeats 4000000 in
theorem l_X11_right_4 {G : Gx} {p : Program} {l : Launch} {e : Env} {s : State} {m : MethodId} {args : Array Value} {below : List Frame} {meth : Method} {c : Code} (C : Cx G p s m args meth c (some .int) 3 RX11 cX11_right)  {σ' : St} {r : Int32} : ∀ (n : Nat) (v1 : Int32) (v2 : Int32) (τ : St), L_X11_right_4  n v1 v2 τ = some (r, σ') → Rt G p l e (lvl 5) s m args below meth c 0 0 (MQ below (va_Qi (fun a b => a = r ∧ b = σ') (Wd G) (AG G)) args s 0 0 (AG G)) 3 4 [(0, vR (40, 0, 0)), (1, vI v1), (2, vI v2)] [] τ := by
  intro n
  induction n with
  | zero => intro v1 v2 τ hF; cases hF
  | succ n ih =>
    intro v1 v2 τ hF
    unfold L_X11_right_4 at hF
    refine r_iload_n C 2 2 dX11_right_4 rfl rfl ?_
    refine r_aload_n C 0 0 dX11_right_5 rfl rfl ?_
    refine r_getI (kf := 23) C dX11_right_6 rfl rfl f_X11 (by decide) t_5_79 rfl ?_
    refine r_icmp_ge C 36 dX11_right_9 (by decide)  (fun h10 => ?_) (fun h10 => ?_)
    · have hF := if_t h10 hF
      refine r_iload_n C 1 1 dX11_right_36 rfl rfl ?_
      exact r_ireturn C dX11_right_37 (rt_e hF)
    · have hF := if_f h10 hF
      refine r_iload_n C 1 1 dX11_right_12 rfl rfl ?_
      refine r_aload_n C 0 0 dX11_right_13 rfl rfl ?_
      refine r_iload_n C 2 2 dX11_right_14 rfl rfl ?_
      obtain ⟨r2, σ1, e3, hF⟩ := bd_e hF
      refine r_callV_i (as := [vI v2]) (st := [vI v1]) C dX11_right_15 (s_X11_isRight G l e3) rfl rfl rfl t_6_218 t_6_220 t_s_57 t_1_14 t_6_221 m_X11_isRight ⟨Nat.le_of_ble_eq_true rfl, Nat.le_of_ble_eq_true rfl⟩ ⟨rfl, rfl⟩ ⟨Nat.zero_le _, Nat.zero_le _⟩ rfl (Nat.le_of_ble_eq_true rfl) ?_
      obtain ⟨k5, ek5, hF⟩ := nam_e hF
      have hk5 : ∀ (y4 : Int32) (σ6 : St), k5 y4 σ6 = some (r, σ') → Rt G p l e (lvl 5) s m args below meth c 0 0 (MQ below (va_Qi (fun a b => a = r ∧ b = σ') (Wd G) (AG G)) args s 0 0 (AG G)) 3 28 [(0, vR (40, 0, 0)), (2, vI v2)] [vI y4, vI v1] σ6 := by
        intro y4 σ6 hF
        subst ek5
        refine r_ior C dX11_right_28 ?_
        obtain ⟨x7, ex7, hF⟩ := nam_e hF
        refine r_topI ex7 ?_
        refine r_istore_n (ls2 := [(1, vI x7), (0, vR (40, 0, 0)), (2, vI v2)]) C dX11_right_29 1 rfl (by decide) rfl ?_
        obtain ⟨x8, ex8, hF⟩ := nam_e hF
        refine r_iinc (v := x8) (ls2 := [(2, vI x8), (1, vI x7), (0, vR (40, 0, 0))]) C 2 dX11_right_30 rfl ex8.symm (by decide) rfl ?_
        refine r_goto C 4 dX11_right_33 (by decide) ?_
        refine r_drop (ls2 := [(0, vR (40, 0, 0)), (1, vI x7), (2, vI x8)]) [2, 1, 0] rfl ?_
        exact ih _ _ _ hF
      refine r_if_eq C 27 dX11_right_18 (by decide)  (fun h9 => ?_) (fun h9 => ?_)
      · have hF := if_t h9 hF
        refine r_iconst (v := (0 : Int32)) C dX11_right_27 rfl ?_
        refine r_drop (ls2 := [(0, vR (40, 0, 0)), (2, vI v2)]) [0, 2] rfl ?_
        exact hk5 _ _ hF
      · have hF := if_f h9 hF
        refine r_iconst (v := (1 : Int32)) C dX11_right_21 rfl ?_
        refine r_iload_n C 2 2 dX11_right_22 rfl rfl ?_
        refine r_ishl C dX11_right_23 ?_
        refine r_goto C 28 dX11_right_24 (by decide) ?_
        refine r_drop (ls2 := [(0, vR (40, 0, 0)), (2, vI v2)]) [0, 2] rfl ?_
        exact hk5 _ _ hF
set_option maxRecDepth 20000 in
set_option maxHeartbeats 4000000 in
theorem s_X11_right (G : Gx) (l : Launch)  {σ σ' : St} {r : Int32} (hF : F_X11_right  σ = some (r, σ')) : Sp G l yX11_right cX11_right 3 (some .int) (lvl 5) [vR (40, 0, 0)] σ (va_Qi (fun a b => a = r ∧ b = σ') (Wd G) (AG G)) := by
  refine Sp_of (own := RX11) (by decide) rfl (Nat.le_of_ble_eq_true rfl) ?_
  intro p e s m args below meth c C
  show Rt G p l e (lvl 5) s m args below meth c 0 0 (MQ below (va_Qi (fun a b => a = r ∧ b = σ') (Wd G) (AG G)) args s 0 0 (AG G)) 3 0 [(0, vR (40, 0, 0))] [] σ
  unfold F_X11_right at hF
  refine r_iconst (v := (0 : Int32)) C dX11_right_0 rfl ?_
  refine r_istore_n (ls2 := [(1, vI (0 : Int32)), (0, vR (40, 0, 0))]) C dX11_right_1 1 rfl (by decide) rfl ?_
  refine r_iconst (v := (0 : Int32)) C dX11_right_2 rfl ?_
  refine r_istore_n (ls2 := [(2, vI (0 : Int32)), (1, vI (0 : Int32)), (0, vR (40, 0, 0))]) C dX11_right_3 2 rfl (by decide) rfl ?_
  refine r_drop (ls2 := [(0, vR (40, 0, 0)), (1, vI (0 : Int32)), (2, vI (0 : Int32))]) [2, 1, 0] rfl ?_
  refine l_X11_right_4 C   _ _ _ _ hF
def L_X11_fits_53 (c1 : Int32) (c2 : Int32) : Nat → Int32 → Int32 → Int32 → Int32 → St → (Int32 → Int32 → Int32 → St → Option (Int32 × St)) → Option (Int32 × St)
  | 0, _, _, _, _, _, _ => none
  | n + 1, v3, v4, v5, v6, τ, kx112 =>
  (if (99 : Int32) < v6 then kx112 v3 v4 v5 τ else ck (inb (0 : Int32) 9) (nam (uI τ (43, 0, 0) 0 v6) fun σ11 => bd (F_X11_right  σ11) fun r13 σ12 => nam (fun (y15 : Int32) (y16 : Int32) (y17 : Int32) (σ19 : St) => nam (v6 + (1 : Int32)) fun x20 => L_X11_fits_53 c1 c2 n y15 y16 y17 x20 σ19 kx112) fun k18 => (if r13 = (((1 : Int32) <<< ((σ12.1 (40, 0, 0) 23) &&& 31)) - (1 : Int32)) then nam (v3 + (1 : Int32)) fun x21 => nam (fun (y22 : Int32) (σ24 : St) => k18 x21 y22 v6 σ24) fun k23 => (if v4 = (-4 : Int32) then k23 v6 σ12 else k23 v4 σ12) else k18 v3 v4 v5 σ12)))
def F_X11_fits (a1 : Int32) (σ : St) : Option (Int32 × St) :=
  bd (F_X11_in (a1.toInt64) (0 : Int64) (2 : Int64) σ) fun r2 σ1 => (if r2 = 0 then some ((-1 : Int32), σ1) else ck (inb (0 : Int32) 9) (nam (σ1.1 (43, 0, 0) 0) fun x5 => ck (inb (1 : Int32) 9) (nam (fun (y7 : Int32) (σ9 : St) => L_X11_fits_53 a1 x5 FU (0 : Int32) (-4 : Int32) (-4 : Int32) y7 σ9 (fun (y29 : Int32) (y30 : Int32) (y31 : Int32) (σ28 : St) => ck (inb (0 : Int32) 9) (nam (uI σ28 (43, 0, 0) 0 x5) fun σ33 => (if a1 = 0 then some (y29, σ33) else (if a1 = (1 : Int32) then some (y30, σ33) else some (y31, σ33)))))) fun k8 => (if (1 : Int32) ≤ (σ1.1 (43, 0, 0) 1) then ck (inb (1 : Int32) 9) (k8 (σ1.1 (43, 0, 0) 1) σ1) else k8 (1 : Int32) σ1))))
set_option maxRecDepth 20000 in
set_option maxHeartbeats 4000000 in
theorem l_X11_fits_53 {G : Gx} {p : Program} {l : Launch} {e : Env} {s : State} {m : MethodId} {args : Array Value} {below : List Frame} {meth : Method} {c : Code} (C : Cx G p s m args meth c (some .int) 7 RX11 cX11_fits) (c1 : Int32) (c2 : Int32) {σ' : St} {r : Int32} (kx112 : Int32 → Int32 → Int32 → St → Option (Int32 × St)) (hkx112 : ∀ (w3 : Int32) (w4 : Int32) (w5 : Int32) (τ : St), kx112 w3 w4 w5 τ = some (r, σ') → Rt G p l e (lvl 6) s m args below meth c 0 0 (MQ below (va_Qi (fun a b => a = r ∧ b = σ') (Wd G) (AG G)) args s 0 0 (AG G)) 7 112 [(0, vR (40, 0, 0)), (1, vI c1), (2, vI c2), (3, vI w3), (4, vI w4), (5, vI w5)] [] τ) : ∀ (n : Nat) (v3 : Int32) (v4 : Int32) (v5 : Int32) (v6 : Int32) (τ : St), L_X11_fits_53 c1 c2 n v3 v4 v5 v6 τ kx112 = some (r, σ') → Rt G p l e (lvl 6) s m args below meth c 0 0 (MQ below (va_Qi (fun a b => a = r ∧ b = σ') (Wd G) (AG G)) args s 0 0 (AG G)) 7 53 [(0, vR (40, 0, 0)), (1, vI c1), (2, vI c2), (3, vI v3), (4, vI v4), (5, vI v5), (6, vI v6)] [] τ := by
  intro n
  induction n with
  | zero => intro v3 v4 v5 v6 τ hF; cases hF
  | succ n ih =>
    intro v3 v4 v5 v6 τ hF
    unfold L_X11_fits_53 at hF
    refine r_iload C 6 dX11_fits_53 rfl ?_
    refine r_bipush (v := (99 : Int32)) C dX11_fits_55 rfl ?_
    refine r_icmp_gt C 112 dX11_fits_57 (by decide)  (fun h27 => ?_) (fun h27 => ?_)
    · have hF := if_t h27 hF
      refine r_drop (ls2 := [(0, vR (40, 0, 0)), (1, vI c1), (2, vI c2), (3, vI v3), (4, vI v4), (5, vI v5)]) [0, 1, 2, 3, 4, 5] rfl ?_
      exact hkx112 _ _ _ _ hF
    · have hF := if_f h27 hF
      refine r_aload_n C 0 0 dX11_fits_60 rfl rfl ?_
      refine r_getR (kf := 2) (d2 := (43, 0, 0)) C dX11_fits_61 rfl rfl f_X11 (by decide) t_5_58 rfl rfl ?_
      refine r_iconst (v := (0 : Int32)) C dX11_fits_64 rfl ?_
      refine r_iload C 6 dX11_fits_65 rfl ?_
      obtain ⟨h10, hF⟩ := ck_e hF
      obtain ⟨σ11, eσ11, hF⟩ := nam_e hF
      refine r_iastore C 0 dX11_fits_67 rfl h10 rfl eσ11 ?_
      refine r_aload_n C 0 0 dX11_fits_68 rfl rfl ?_
      obtain ⟨r13, σ12, e14, hF⟩ := bd_e hF
      refine r_callV_i (as := []) (st := []) C dX11_fits_69 (s_X11_right G l e14) rfl rfl rfl t_6_226 t_6_215 t_6_216 t_1_14 t_6_217 m_X11_right ⟨Nat.le_of_ble_eq_true rfl, Nat.le_of_ble_eq_true rfl⟩ ⟨rfl, rfl⟩ ⟨Nat.zero_le _, Nat.zero_le _⟩ rfl (Nat.le_of_ble_eq_true rfl) ?_
      refine r_iconst (v := (1 : Int32)) C dX11_fits_72 rfl ?_
      refine r_aload_n C 0 0 dX11_fits_73 rfl rfl ?_
      refine r_getI (kf := 23) C dX11_fits_74 rfl rfl f_X11 (by decide) t_5_79 rfl ?_
      refine r_ishl C dX11_fits_77 ?_
      refine r_iconst (v := (1 : Int32)) C dX11_fits_78 rfl ?_
      refine r_isub C dX11_fits_79 ?_
      obtain ⟨k18, ek18, hF⟩ := nam_e hF
      have hk18 : ∀ (y15 : Int32) (y16 : Int32) (y17 : Int32) (σ19 : St), k18 y15 y16 y17 σ19 = some (r, σ') → Rt G p l e (lvl 6) s m args below meth c 0 0 (MQ below (va_Qi (fun a b => a = r ∧ b = σ') (Wd G) (AG G)) args s 0 0 (AG G)) 7 106 [(0, vR (40, 0, 0)), (1, vI c1), (2, vI c2), (3, vI y15), (4, vI y16), (5, vI y17), (6, vI v6)] [] σ19 := by
        intro y15 y16 y17 σ19 hF
        subst ek18
        obtain ⟨x20, ex20, hF⟩ := nam_e hF
        refine r_iinc (v := x20) (ls2 := [(6, vI x20), (0, vR (40, 0, 0)), (1, vI c1), (2, vI c2), (3, vI y15), (4, vI y16), (5, vI y17)]) C 6 dX11_fits_106 rfl ex20.symm (by decide) rfl ?_
        refine r_goto C 53 dX11_fits_109 (by decide) ?_
        refine r_drop (ls2 := [(0, vR (40, 0, 0)), (1, vI c1), (2, vI c2), (3, vI y15), (4, vI y16), (5, vI y17), (6, vI x20)]) [1, 2, 3, 4, 5, 6, 0] rfl ?_
        exact ih _ _ _ _ _ hF
      refine r_icmp_ne C 106 dX11_fits_80 (by decide)  (fun h26 => ?_) (fun h26 => ?_)
      · have hF := if_f h26 hF
        exact hk18 _ _ _ _ hF
      · have hF := if_t h26 hF
        obtain ⟨x21, ex21, hF⟩ := nam_e hF
        refine r_iinc (v := x21) (ls2 := [(3, vI x21), (0, vR (40, 0, 0)), (1, vI c1), (2, vI c2), (4, vI v4), (5, vI v5), (6, vI v6)]) C 3 dX11_fits_83 rfl ex21.symm (by decide) rfl ?_
        refine r_iload C 4 dX11_fits_86 rfl ?_
        refine r_bipush (v := (-4 : Int32)) C dX11_fits_88 rfl ?_
        obtain ⟨k23, ek23, hF⟩ := nam_e hF
        have hk23 : ∀ (y22 : Int32) (σ24 : St), k23 y22 σ24 = some (r, σ') → Rt G p l e (lvl 6) s m args below meth c 0 0 (MQ below (va_Qi (fun a b => a = r ∧ b = σ') (Wd G) (AG G)) args s 0 0 (AG G)) 7 100 [(0, vR (40, 0, 0)), (1, vI c1), (2, vI c2), (3, vI x21), (6, vI v6)] [vI y22] σ24 := by
          intro y22 σ24 hF
          subst ek23
          refine r_istore (ls2 := [(4, vI y22), (0, vR (40, 0, 0)), (1, vI c1), (2, vI c2), (3, vI x21), (6, vI v6)]) C dX11_fits_100 (by decide) rfl ?_
          refine r_iload C 5 dX11_fits_102 rfl ?_
          refine r_istore (ls2 := [(5, vI v6), (4, vI y22), (0, vR (40, 0, 0)), (1, vI c1), (2, vI c2), (3, vI x21), (6, vI v6)]) C dX11_fits_104 (by decide) rfl ?_
          refine r_drop (ls2 := [(0, vR (40, 0, 0)), (1, vI c1), (2, vI c2), (3, vI x21), (4, vI y22), (5, vI v6), (6, vI v6)]) [2, 3, 4, 5, 1, 0, 6] rfl ?_
          exact hk18 _ _ _ _ hF
        refine r_icmp_ne C 98 dX11_fits_90 (by decide)  (fun h25 => ?_) (fun h25 => ?_)
        · have hF := if_f h25 hF
          refine r_iload C 4 dX11_fits_98 rfl ?_
          refine r_drop (ls2 := [(0, vR (40, 0, 0)), (1, vI c1), (2, vI c2), (3, vI x21), (6, vI v6)]) [1, 2, 3, 0, 6] rfl ?_
          exact hk23 _ _ hF
        · have hF := if_t h25 hF
          refine r_iload C 6 dX11_fits_93 rfl ?_
          refine r_goto C 100 dX11_fits_95 (by decide) ?_
          refine r_drop (ls2 := [(0, vR (40, 0, 0)), (1, vI c1), (2, vI c2), (3, vI x21), (6, vI v6)]) [1, 2, 3, 0, 6] rfl ?_
          exact hk23 _ _ hF
set_option maxRecDepth 20000 in
set_option maxHeartbeats 4000000 in
theorem s_X11_fits (G : Gx) (l : Launch) {a1 : Int32} {σ σ' : St} {r : Int32} (hF : F_X11_fits a1 σ = some (r, σ')) : Sp G l yX11_fits cX11_fits 7 (some .int) (lvl 6) [vR (40, 0, 0), vI a1] σ (va_Qi (fun a b => a = r ∧ b = σ') (Wd G) (AG G)) := by
  refine Sp_of (own := RX11) (by decide) rfl (Nat.le_of_ble_eq_true rfl) ?_
  intro p e s m args below meth c C
  show Rt G p l e (lvl 6) s m args below meth c 0 0 (MQ below (va_Qi (fun a b => a = r ∧ b = σ') (Wd G) (AG G)) args s 0 0 (AG G)) 7 0 [(0, vR (40, 0, 0)), (1, vI a1)] [] σ
  unfold F_X11_fits at hF
  refine r_iload_n C 1 1 dX11_fits_0 rfl rfl ?_
  refine r_i2l C dX11_fits_1 ?_
  refine r_lconst (v := (0 : Int64)) C dX11_fits_2 rfl ?_
  refine r_ldc2_w (v := (2 : Int64)) C dX11_fits_3 t_6_139 ?_
  obtain ⟨r2, σ1, e3, hF⟩ := bd_e hF
  refine r_callS_i (as := [vL (a1.toInt64), vL (0 : Int64), vL (2 : Int64)]) (st := []) C dX11_fits_6 (s_X11_in G l e3) t_5_153 t_5_154 t_1_14 t_5_155 m_X11_in ⟨Nat.le_of_ble_eq_true rfl, Nat.le_of_ble_eq_true rfl⟩ ⟨rfl, rfl⟩ ⟨Nat.zero_le _, Nat.zero_le _⟩ rfl (Nat.le_of_ble_eq_true rfl) ?_
  refine r_if_ne C 14 dX11_fits_9 (by decide)  (fun h38 => ?_) (fun h38 => ?_)
  · have hF := if_f h38 hF
    refine r_aload_n C 0 0 dX11_fits_14 rfl rfl ?_
    refine r_getR (kf := 2) (d2 := (43, 0, 0)) C dX11_fits_15 rfl rfl f_X11 (by decide) t_5_58 rfl rfl ?_
    refine r_iconst (v := (0 : Int32)) C dX11_fits_18 rfl ?_
    obtain ⟨h4, hF⟩ := ck_e hF
    refine r_iaload C 0 dX11_fits_19 rfl h4 rfl ?_
    obtain ⟨x5, ex5, hF⟩ := nam_e hF
    refine r_topI ex5 ?_
    refine r_istore_n (ls2 := [(2, vI x5), (0, vR (40, 0, 0)), (1, vI a1)]) C dX11_fits_20 2 rfl (by decide) rfl ?_
    refine r_iconst (v := (0 : Int32)) C dX11_fits_21 rfl ?_
    refine r_istore_n (ls2 := [(3, vI (0 : Int32)), (2, vI x5), (0, vR (40, 0, 0)), (1, vI a1)]) C dX11_fits_22 3 rfl (by decide) rfl ?_
    refine r_bipush (v := (-4 : Int32)) C dX11_fits_23 rfl ?_
    refine r_istore (ls2 := [(4, vI (-4 : Int32)), (3, vI (0 : Int32)), (2, vI x5), (0, vR (40, 0, 0)), (1, vI a1)]) C dX11_fits_25 (by decide) rfl ?_
    refine r_bipush (v := (-4 : Int32)) C dX11_fits_27 rfl ?_
    refine r_istore (ls2 := [(5, vI (-4 : Int32)), (4, vI (-4 : Int32)), (3, vI (0 : Int32)), (2, vI x5), (0, vR (40, 0, 0)), (1, vI a1)]) C dX11_fits_29 (by decide) rfl ?_
    refine r_aload_n C 4 0 dX11_fits_31 rfl rfl ?_
    refine r_getR (kf := 2) (d2 := (43, 0, 0)) C dX11_fits_32 rfl rfl f_X11 (by decide) t_5_58 rfl rfl ?_
    refine r_iconst (v := (1 : Int32)) C dX11_fits_35 rfl ?_
    obtain ⟨h6, hF⟩ := ck_e hF
    refine r_iaload C 1 dX11_fits_36 rfl h6 rfl ?_
    refine r_iconst (v := (1 : Int32)) C dX11_fits_37 rfl ?_
    obtain ⟨k8, ek8, hF⟩ := nam_e hF
    have hk8 : ∀ (y7 : Int32) (σ9 : St), k8 y7 σ9 = some (r, σ') → Rt G p l e (lvl 6) s m args below meth c 0 0 (MQ below (va_Qi (fun a b => a = r ∧ b = σ') (Wd G) (AG G)) args s 0 0 (AG G)) 7 51 [(0, vR (40, 0, 0)), (1, vI a1), (2, vI x5), (3, vI (0 : Int32)), (4, vI (-4 : Int32)), (5, vI (-4 : Int32))] [vI y7] σ9 := by
      intro y7 σ9 hF
      subst ek8
      refine r_istore (ls2 := [(6, vI y7), (0, vR (40, 0, 0)), (1, vI a1), (2, vI x5), (3, vI (0 : Int32)), (4, vI (-4 : Int32)), (5, vI (-4 : Int32))]) C dX11_fits_51 (by decide) rfl ?_
      refine r_drop (ls2 := [(0, vR (40, 0, 0)), (1, vI a1), (2, vI x5), (3, vI (0 : Int32)), (4, vI (-4 : Int32)), (5, vI (-4 : Int32)), (6, vI y7)]) [1, 2, 3, 4, 5, 6, 0] rfl ?_
      refine l_X11_fits_53 C a1 x5 _ ?_ _ _ _ _ _ _ hF
      · intro y29 y30 y31 σ28 hF
        refine r_aload_n C 0 0 dX11_fits_112 rfl rfl ?_
        refine r_getR (kf := 2) (d2 := (43, 0, 0)) C dX11_fits_113 rfl rfl f_X11 (by decide) t_5_58 rfl rfl ?_
        refine r_iconst (v := (0 : Int32)) C dX11_fits_116 rfl ?_
        refine r_iload_n C 2 2 dX11_fits_117 rfl rfl ?_
        obtain ⟨h32, hF⟩ := ck_e hF
        obtain ⟨σ33, eσ33, hF⟩ := nam_e hF
        refine r_iastore C 0 dX11_fits_118 rfl h32 rfl eσ33 ?_
        refine r_iload_n C 1 1 dX11_fits_119 rfl rfl ?_
        refine r_if_ne C 127 dX11_fits_120 (by decide)  (fun h35 => ?_) (fun h35 => ?_)
        · have hF := if_f h35 hF
          refine r_iload_n C 1 1 dX11_fits_127 rfl rfl ?_
          refine r_iconst (v := (1 : Int32)) C dX11_fits_128 rfl ?_
          refine r_icmp_ne C 137 dX11_fits_129 (by decide)  (fun h34 => ?_) (fun h34 => ?_)
          · have hF := if_f h34 hF
            refine r_iload C 5 dX11_fits_137 rfl ?_
            exact r_ireturn C dX11_fits_139 (rt_e hF)
          · have hF := if_t h34 hF
            refine r_iload C 4 dX11_fits_132 rfl ?_
            refine r_goto C 139 dX11_fits_134 (by decide) ?_
            exact r_ireturn C dX11_fits_139 (rt_e hF)
        · have hF := if_t h35 hF
          refine r_iload_n C 3 3 dX11_fits_123 rfl rfl ?_
          refine r_goto C 139 dX11_fits_124 (by decide) ?_
          exact r_ireturn C dX11_fits_139 (rt_e hF)
    refine r_icmp_ge C 45 dX11_fits_38 (by decide)  (fun h37 => ?_) (fun h37 => ?_)
    · have hF := if_t h37 hF
      refine r_aload_n C 4 0 dX11_fits_45 rfl rfl ?_
      refine r_getR (kf := 2) (d2 := (43, 0, 0)) C dX11_fits_46 rfl rfl f_X11 (by decide) t_5_58 rfl rfl ?_
      refine r_iconst (v := (1 : Int32)) C dX11_fits_49 rfl ?_
      obtain ⟨h36, hF⟩ := ck_e hF
      refine r_iaload C 1 dX11_fits_50 rfl h36 rfl ?_
      refine r_drop (ls2 := [(0, vR (40, 0, 0)), (1, vI a1), (2, vI x5), (3, vI (0 : Int32)), (4, vI (-4 : Int32)), (5, vI (-4 : Int32))]) [4, 5, 3, 2, 1, 0] rfl ?_
      exact hk8 _ _ hF
    · have hF := if_f h37 hF
      refine r_iconst (v := (1 : Int32)) C dX11_fits_41 rfl ?_
      refine r_goto C 51 dX11_fits_42 (by decide) ?_
      refine r_drop (ls2 := [(0, vR (40, 0, 0)), (1, vI a1), (2, vI x5), (3, vI (0 : Int32)), (4, vI (-4 : Int32)), (5, vI (-4 : Int32))]) [4, 5, 3, 2, 1, 0] rfl ?_
      exact hk8 _ _ hF
  · have hF := if_t h38 hF
    refine r_iconst (v := (-1 : Int32)) C dX11_fits_12 rfl ?_
    exact r_ireturn C dX11_fits_13 (rt_e hF)
def F_X11_isSheet (a0 : Int32) (a1 : Int32) (σ : St) : Option (Int32 × St) :=
  bd (F_X11_in (a0.toInt64) (0 : Int64) (3 : Int64) σ) fun r2 σ1 => (if r2 = 0 then some ((0 : Int32), σ1) else bd (F_X11_in (a1.toInt64) (0 : Int64) (2 : Int64) σ1) fun r5 σ4 => (if r5 = 0 then some ((0 : Int32), σ4) else some ((1 : Int32), σ4)))
set_option maxRecDepth 20000 in
set_option maxHeartbeats 4000000 in
theorem s_X11_isSheet (G : Gx) (l : Launch) {a0 : Int32} {a1 : Int32} {σ σ' : St} {r : Int32} (hF : F_X11_isSheet a0 a1 σ = some (r, σ')) : Sp G l yX11_isSheet cX11_isSheet 2 (some .boolean) (lvl 1) [vI a0, vI a1] σ (va_Qi (fun a b => a = r ∧ b = σ') (Wd G) (AG G)) := by
  refine Sp_of (own := RX11) (by decide) rfl (Nat.le_of_ble_eq_true rfl) ?_
  intro p e s m args below meth c C
  show Rt G p l e (lvl 1) s m args below meth c 0 0 (MQ below (va_Qi (fun a b => a = r ∧ b = σ') (Wd G) (AG G)) args s 0 0 (AG G)) 2 0 [(0, vI a0), (1, vI a1)] [] σ
  unfold F_X11_isSheet at hF
  refine r_iload_n C 0 0 dX11_isSheet_0 rfl rfl ?_
  refine r_i2l C dX11_isSheet_1 ?_
  refine r_lconst (v := (0 : Int64)) C dX11_isSheet_2 rfl ?_
  refine r_ldc2_w (v := (3 : Int64)) C dX11_isSheet_3 t_6_16 ?_
  obtain ⟨r2, σ1, e3, hF⟩ := bd_e hF
  refine r_callS_i (as := [vL (a0.toInt64), vL (0 : Int64), vL (3 : Int64)]) (st := []) C dX11_isSheet_6 (s_X11_in G l e3) t_5_153 t_5_154 t_1_14 t_5_155 m_X11_in ⟨Nat.le_of_ble_eq_true rfl, Nat.le_of_ble_eq_true rfl⟩ ⟨rfl, rfl⟩ ⟨Nat.zero_le _, Nat.zero_le _⟩ rfl (Nat.le_of_ble_eq_true rfl) ?_
  refine r_if_eq C 28 dX11_isSheet_9 (by decide)  (fun h8 => ?_) (fun h8 => ?_)
  · have hF := if_t h8 hF
    refine r_iconst (v := (0 : Int32)) C dX11_isSheet_28 rfl ?_
    exact r_zreturn C dX11_isSheet_29 (nar_z (Or.inl rfl)) (rt_e hF)
  · have hF := if_f h8 hF
    refine r_iload_n C 1 1 dX11_isSheet_12 rfl rfl ?_
    refine r_i2l C dX11_isSheet_13 ?_
    refine r_lconst (v := (0 : Int64)) C dX11_isSheet_14 rfl ?_
    refine r_ldc2_w (v := (2 : Int64)) C dX11_isSheet_15 t_6_139 ?_
    obtain ⟨r5, σ4, e6, hF⟩ := bd_e hF
    refine r_callS_i (as := [vL (a1.toInt64), vL (0 : Int64), vL (2 : Int64)]) (st := []) C dX11_isSheet_18 (s_X11_in G l e6) t_5_153 t_5_154 t_1_14 t_5_155 m_X11_in ⟨Nat.le_of_ble_eq_true rfl, Nat.le_of_ble_eq_true rfl⟩ ⟨rfl, rfl⟩ ⟨Nat.zero_le _, Nat.zero_le _⟩ rfl (Nat.le_of_ble_eq_true rfl) ?_
    refine r_if_eq C 28 dX11_isSheet_21 (by decide)  (fun h7 => ?_) (fun h7 => ?_)
    · have hF := if_t h7 hF
      refine r_iconst (v := (0 : Int32)) C dX11_isSheet_28 rfl ?_
      exact r_zreturn C dX11_isSheet_29 (nar_z (Or.inl rfl)) (rt_e hF)
    · have hF := if_f h7 hF
      refine r_iconst (v := (1 : Int32)) C dX11_isSheet_24 rfl ?_
      refine r_goto C 29 dX11_isSheet_25 (by decide) ?_
      exact r_zreturn C dX11_isSheet_29 (nar_z (Or.inr rfl)) (rt_e hF)
def L_X11_sheet_40 (c1 : Int32) : Nat → Int32 → St → Option (Int32 × St)
  | 0, _, _ => none
  | n + 1, v4, τ =>
  (if (40 : Int32) ≤ v4 then some ((1 : Int32), τ) else ck (inb (((40 : Int32) * c1) + v4) 160) (nam (uI τ (54, 0, 0) ((((40 : Int32) * c1) + v4).toNatClampNeg) (0 : Int32)) fun σ9 => nam (v4 + (1 : Int32)) fun x10 => L_X11_sheet_40 c1 n x10 σ9))
def F_X11_sheet (a1 : Int32) (a2 : Int32) (a3 : Int32) (σ : St) : Option (Int32 × St) :=
  bd (F_X11_isSheet a1 a2 σ) fun r2 σ1 => (if r2 = 0 then some ((-1 : Int32), σ1) else (if a3 ≤ (40 : Int32) then (if 0 ≤ a3 then ck (inb a1 4) (nam (uI σ1 (52, 0, 0) (a1.toNatClampNeg) a2) fun σ5 => ck (inb a1 4) (nam (uI σ5 (53, 0, 0) (a1.toNatClampNeg) a3) fun σ7 => L_X11_sheet_40 a1 FU (0 : Int32) σ7 )) else some ((-14 : Int32), σ1)) else some ((-1 : Int32), σ1)))
set_option maxRecDepth 20000 in
set_option maxHeartbeats 4000000 in
theorem l_X11_sheet_40 {G : Gx} {p : Program} {l : Launch} {e : Env} {s : State} {m : MethodId} {args : Array Value} {below : List Frame} {meth : Method} {c : Code} (C : Cx G p s m args meth c (some .int) 5 RX11 cX11_sheet) (c1 : Int32) {σ' : St} {r : Int32} : ∀ (n : Nat) (v4 : Int32) (τ : St), L_X11_sheet_40 c1 n v4 τ = some (r, σ') → Rt G p l e (lvl 2) s m args below meth c 0 0 (MQ below (va_Qi (fun a b => a = r ∧ b = σ') (Wd G) (AG G)) args s 0 0 (AG G)) 5 40 [(0, vR (40, 0, 0)), (1, vI c1), (4, vI v4)] [] τ := by
  intro n
  induction n with
  | zero => intro v4 τ hF; cases hF
  | succ n ih =>
    intro v4 τ hF
    unfold L_X11_sheet_40 at hF
    refine r_iload C 2 dX11_sheet_40 rfl ?_
    refine r_bipush (v := (40 : Int32)) C dX11_sheet_42 rfl ?_
    refine r_icmp_ge C 66 dX11_sheet_44 (by decide)  (fun h11 => ?_) (fun h11 => ?_)
    · have hF := if_t h11 hF
      refine r_iconst (v := (1 : Int32)) C dX11_sheet_66 rfl ?_
      exact r_ireturn C dX11_sheet_67 (rt_e hF)
    · have hF := if_f h11 hF
      refine r_aload_n C 0 0 dX11_sheet_47 rfl rfl ?_
      refine r_getR (kf := 27) (d2 := (54, 0, 0)) C dX11_sheet_48 rfl rfl f_X11 (by decide) t_5_83 rfl rfl ?_
      refine r_bipush (v := (40 : Int32)) C dX11_sheet_51 rfl ?_
      refine r_iload_n C 1 1 dX11_sheet_53 rfl rfl ?_
      refine r_imul C dX11_sheet_54 ?_
      refine r_iload C 2 dX11_sheet_55 rfl ?_
      refine r_iadd C dX11_sheet_57 ?_
      refine r_iconst (v := (0 : Int32)) C dX11_sheet_58 rfl ?_
      obtain ⟨h8, hF⟩ := ck_e hF
      obtain ⟨σ9, eσ9, hF⟩ := nam_e hF
      refine r_iastore C ((((40 : Int32) * c1) + v4).toNatClampNeg) dX11_sheet_59 rfl h8 rfl eσ9 ?_
      obtain ⟨x10, ex10, hF⟩ := nam_e hF
      refine r_iinc (v := x10) (ls2 := [(4, vI x10), (0, vR (40, 0, 0)), (1, vI c1)]) C 2 dX11_sheet_60 rfl ex10.symm (by decide) rfl ?_
      refine r_goto C 40 dX11_sheet_63 (by decide) ?_
      refine r_drop (ls2 := [(0, vR (40, 0, 0)), (1, vI c1), (4, vI x10)]) [1, 2, 0] rfl ?_
      exact ih _ _ hF
set_option maxRecDepth 20000 in
set_option maxHeartbeats 4000000 in
theorem s_X11_sheet (G : Gx) (l : Launch) {a1 : Int32} {a2 : Int32} {a3 : Int32} {σ σ' : St} {r : Int32} (hF : F_X11_sheet a1 a2 a3 σ = some (r, σ')) : Sp G l yX11_sheet cX11_sheet 5 (some .int) (lvl 2) [vR (40, 0, 0), vI a1, vI a2, vI a3] σ (va_Qi (fun a b => a = r ∧ b = σ') (Wd G) (AG G)) := by
  refine Sp_of (own := RX11) (by decide) rfl (Nat.le_of_ble_eq_true rfl) ?_
  intro p e s m args below meth c C
  show Rt G p l e (lvl 2) s m args below meth c 0 0 (MQ below (va_Qi (fun a b => a = r ∧ b = σ') (Wd G) (AG G)) args s 0 0 (AG G)) 5 0 [(0, vR (40, 0, 0)), (1, vI a1), (2, vI a2), (3, vI a3)] [] σ
  unfold F_X11_sheet at hF
  refine r_iload_n C 1 1 dX11_sheet_0 rfl rfl ?_
  refine r_iload_n C 2 2 dX11_sheet_1 rfl rfl ?_
  obtain ⟨r2, σ1, e3, hF⟩ := bd_e hF
  refine r_callS_i (as := [vI a1, vI a2]) (st := []) C dX11_sheet_2 (s_X11_isSheet G l e3) t_6_231 t_6_232 t_1_14 t_6_233 m_X11_isSheet ⟨Nat.le_of_ble_eq_true rfl, Nat.le_of_ble_eq_true rfl⟩ ⟨rfl, rfl⟩ ⟨Nat.zero_le _, Nat.zero_le _⟩ rfl (Nat.le_of_ble_eq_true rfl) ?_
  refine r_if_eq C 14 dX11_sheet_5 (by decide)  (fun h14 => ?_) (fun h14 => ?_)
  · have hF := if_t h14 hF
    refine r_iconst (v := (-1 : Int32)) C dX11_sheet_14 rfl ?_
    exact r_ireturn C dX11_sheet_15 (rt_e hF)
  · have hF := if_f h14 hF
    refine r_iload_n C 3 3 dX11_sheet_8 rfl rfl ?_
    refine r_bipush (v := (40 : Int32)) C dX11_sheet_9 rfl ?_
    refine r_icmp_le C 16 dX11_sheet_11 (by decide)  (fun h13 => ?_) (fun h13 => ?_)
    · have hF := if_t h13 hF
      refine r_iload_n C 3 3 dX11_sheet_16 rfl rfl ?_
      refine r_if_ge C 23 dX11_sheet_17 (by decide)  (fun h12 => ?_) (fun h12 => ?_)
      · have hF := if_t h12 hF
        refine r_aload_n C 0 0 dX11_sheet_23 rfl rfl ?_
        refine r_getR (kf := 25) (d2 := (52, 0, 0)) C dX11_sheet_24 rfl rfl f_X11 (by decide) t_5_81 rfl rfl ?_
        refine r_iload_n C 1 1 dX11_sheet_27 rfl rfl ?_
        refine r_iload_n C 2 2 dX11_sheet_28 rfl rfl ?_
        obtain ⟨h4, hF⟩ := ck_e hF
        obtain ⟨σ5, eσ5, hF⟩ := nam_e hF
        refine r_iastore C (a1.toNatClampNeg) dX11_sheet_29 rfl h4 rfl eσ5 ?_
        refine r_aload_n C 0 0 dX11_sheet_30 rfl rfl ?_
        refine r_getR (kf := 26) (d2 := (53, 0, 0)) C dX11_sheet_31 rfl rfl f_X11 (by decide) t_5_82 rfl rfl ?_
        refine r_iload_n C 1 1 dX11_sheet_34 rfl rfl ?_
        refine r_iload_n C 3 3 dX11_sheet_35 rfl rfl ?_
        obtain ⟨h6, hF⟩ := ck_e hF
        obtain ⟨σ7, eσ7, hF⟩ := nam_e hF
        refine r_iastore C (a1.toNatClampNeg) dX11_sheet_36 rfl h6 rfl eσ7 ?_
        refine r_iconst (v := (0 : Int32)) C dX11_sheet_37 rfl ?_
        refine r_istore (ls2 := [(4, vI (0 : Int32)), (0, vR (40, 0, 0)), (1, vI a1), (2, vI a2), (3, vI a3)]) C dX11_sheet_38 (by decide) rfl ?_
        refine r_drop (ls2 := [(0, vR (40, 0, 0)), (1, vI a1), (4, vI (0 : Int32))]) [1, 2, 0] rfl ?_
        refine l_X11_sheet_40 C a1  _ _ _ hF
      · have hF := if_f h12 hF
        refine r_bipush (v := (-14 : Int32)) C dX11_sheet_20 rfl ?_
        exact r_ireturn C dX11_sheet_22 (rt_e hF)
    · have hF := if_f h13 hF
      refine r_iconst (v := (-1 : Int32)) C dX11_sheet_14 rfl ?_
      exact r_ireturn C dX11_sheet_15 (rt_e hF)
def F_X11_lay (a1 : Int32) (a2 : Int32) (a3 : Int32) (σ : St) : Option (Int32 × St) :=
  bd (F_X11_isSheet a1 (0 : Int32) σ) fun r2 σ1 => (if r2 = 0 then some ((-1 : Int32), σ1) else ck (inb a1 4) ((if (σ1.1 (52, 0, 0) (a1.toNatClampNeg)) = (-4 : Int32) then some ((-11 : Int32), σ1) else ck (inb a1 4) (bd (F_X11_in (a2.toInt64) (0 : Int64) (((σ1.1 (53, 0, 0) (a1.toNatClampNeg)) - (1 : Int32)).toInt64) σ1) fun r7 σ6 => (if r7 = 0 then some ((-12 : Int32), σ6) else ck (inb a1 4) (nam (fun (y10 : Int32) (σ12 : St) => ck (inb (((40 : Int32) * a1) + a2) 160) (nam (uI σ12 (54, 0, 0) ((((40 : Int32) * a1) + a2).toNatClampNeg) y10) fun σ14 => some ((1 : Int32), σ14))) fun k11 => (if (σ6.1 (52, 0, 0) (a1.toNatClampNeg)) = 0 then k11 (a3.toInt8.toInt32) σ6 else ck (inb a1 4) ((if (σ6.1 (52, 0, 0) (a1.toNatClampNeg)) = (1 : Int32) then k11 (a3.toInt16.toInt32) σ6 else k11 a3 σ6)))))))))
set_option maxRecDepth 20000 in
set_option maxHeartbeats 4000000 in
theorem s_X11_lay (G : Gx) (l : Launch) {a1 : Int32} {a2 : Int32} {a3 : Int32} {σ σ' : St} {r : Int32} (hF : F_X11_lay a1 a2 a3 σ = some (r, σ')) : Sp G l yX11_lay cX11_lay 4 (some .int) (lvl 2) [vR (40, 0, 0), vI a1, vI a2, vI a3] σ (va_Qi (fun a b => a = r ∧ b = σ') (Wd G) (AG G)) := by
  refine Sp_of (own := RX11) (by decide) rfl (Nat.le_of_ble_eq_true rfl) ?_
  intro p e s m args below meth c C
  show Rt G p l e (lvl 2) s m args below meth c 0 0 (MQ below (va_Qi (fun a b => a = r ∧ b = σ') (Wd G) (AG G)) args s 0 0 (AG G)) 4 0 [(0, vR (40, 0, 0)), (1, vI a1), (2, vI a2), (3, vI a3)] [] σ
  unfold F_X11_lay at hF
  refine r_iload_n C 1 1 dX11_lay_0 rfl rfl ?_
  refine r_iconst (v := (0 : Int32)) C dX11_lay_1 rfl ?_
  obtain ⟨r2, σ1, e3, hF⟩ := bd_e hF
  refine r_callS_i (as := [vI a1, vI (0 : Int32)]) (st := []) C dX11_lay_2 (s_X11_isSheet G l e3) t_6_231 t_6_232 t_1_14 t_6_233 m_X11_isSheet ⟨Nat.le_of_ble_eq_true rfl, Nat.le_of_ble_eq_true rfl⟩ ⟨rfl, rfl⟩ ⟨Nat.zero_le _, Nat.zero_le _⟩ rfl (Nat.le_of_ble_eq_true rfl) ?_
  refine r_if_ne C 10 dX11_lay_5 (by decide)  (fun h20 => ?_) (fun h20 => ?_)
  · have hF := if_f h20 hF
    refine r_aload_n C 0 0 dX11_lay_10 rfl rfl ?_
    refine r_getR (kf := 25) (d2 := (52, 0, 0)) C dX11_lay_11 rfl rfl f_X11 (by decide) t_5_81 rfl rfl ?_
    refine r_iload_n C 1 1 dX11_lay_14 rfl rfl ?_
    obtain ⟨h4, hF⟩ := ck_e hF
    refine r_iaload C (a1.toNatClampNeg) dX11_lay_15 rfl h4 rfl ?_
    refine r_bipush (v := (-4 : Int32)) C dX11_lay_16 rfl ?_
    refine r_icmp_ne C 24 dX11_lay_18 (by decide)  (fun h19 => ?_) (fun h19 => ?_)
    · have hF := if_f h19 hF
      refine r_iload_n C 2 2 dX11_lay_24 rfl rfl ?_
      refine r_i2l C dX11_lay_25 ?_
      refine r_lconst (v := (0 : Int64)) C dX11_lay_26 rfl ?_
      refine r_aload_n C 0 0 dX11_lay_27 rfl rfl ?_
      refine r_getR (kf := 26) (d2 := (53, 0, 0)) C dX11_lay_28 rfl rfl f_X11 (by decide) t_5_82 rfl rfl ?_
      refine r_iload_n C 1 1 dX11_lay_31 rfl rfl ?_
      obtain ⟨h5, hF⟩ := ck_e hF
      refine r_iaload C (a1.toNatClampNeg) dX11_lay_32 rfl h5 rfl ?_
      refine r_iconst (v := (1 : Int32)) C dX11_lay_33 rfl ?_
      refine r_isub C dX11_lay_34 ?_
      refine r_i2l C dX11_lay_35 ?_
      obtain ⟨r7, σ6, e8, hF⟩ := bd_e hF
      refine r_callS_i (as := [vL (a2.toInt64), vL (0 : Int64), vL (((σ1.1 (53, 0, 0) (a1.toNatClampNeg)) - (1 : Int32)).toInt64)]) (st := []) C dX11_lay_36 (s_X11_in G l e8) t_5_153 t_5_154 t_1_14 t_5_155 m_X11_in ⟨Nat.le_of_ble_eq_true rfl, Nat.le_of_ble_eq_true rfl⟩ ⟨rfl, rfl⟩ ⟨Nat.zero_le _, Nat.zero_le _⟩ rfl (Nat.le_of_ble_eq_true rfl) ?_
      refine r_if_ne C 45 dX11_lay_39 (by decide)  (fun h18 => ?_) (fun h18 => ?_)
      · have hF := if_f h18 hF
        refine r_aload_n C 0 0 dX11_lay_45 rfl rfl ?_
        refine r_getR (kf := 27) (d2 := (54, 0, 0)) C dX11_lay_46 rfl rfl f_X11 (by decide) t_5_83 rfl rfl ?_
        refine r_bipush (v := (40 : Int32)) C dX11_lay_49 rfl ?_
        refine r_iload_n C 1 1 dX11_lay_51 rfl rfl ?_
        refine r_imul C dX11_lay_52 ?_
        refine r_iload_n C 2 2 dX11_lay_53 rfl rfl ?_
        refine r_iadd C dX11_lay_54 ?_
        refine r_aload_n C 0 0 dX11_lay_55 rfl rfl ?_
        refine r_getR (kf := 25) (d2 := (52, 0, 0)) C dX11_lay_56 rfl rfl f_X11 (by decide) t_5_81 rfl rfl ?_
        refine r_iload_n C 1 1 dX11_lay_59 rfl rfl ?_
        obtain ⟨h9, hF⟩ := ck_e hF
        refine r_iaload C (a1.toNatClampNeg) dX11_lay_60 rfl h9 rfl ?_
        obtain ⟨k11, ek11, hF⟩ := nam_e hF
        have hk11 : ∀ (y10 : Int32) (σ12 : St), k11 y10 σ12 = some (r, σ') → Rt G p l e (lvl 2) s m args below meth c 0 0 (MQ below (va_Qi (fun a b => a = r ∧ b = σ') (Wd G) (AG G)) args s 0 0 (AG G)) 4 85 [] [vI y10, vI (((40 : Int32) * a1) + a2), vR (54, 0, 0)] σ12 := by
          intro y10 σ12 hF
          subst ek11
          obtain ⟨h13, hF⟩ := ck_e hF
          obtain ⟨σ14, eσ14, hF⟩ := nam_e hF
          refine r_iastore C ((((40 : Int32) * a1) + a2).toNatClampNeg) dX11_lay_85 rfl h13 rfl eσ14 ?_
          refine r_iconst (v := (1 : Int32)) C dX11_lay_86 rfl ?_
          exact r_ireturn C dX11_lay_87 (rt_e hF)
        refine r_if_ne C 69 dX11_lay_61 (by decide)  (fun h17 => ?_) (fun h17 => ?_)
        · have hF := if_f h17 hF
          refine r_aload_n C 0 0 dX11_lay_69 rfl rfl ?_
          refine r_getR (kf := 25) (d2 := (52, 0, 0)) C dX11_lay_70 rfl rfl f_X11 (by decide) t_5_81 rfl rfl ?_
          refine r_iload_n C 1 1 dX11_lay_73 rfl rfl ?_
          obtain ⟨h15, hF⟩ := ck_e hF
          refine r_iaload C (a1.toNatClampNeg) dX11_lay_74 rfl h15 rfl ?_
          refine r_iconst (v := (1 : Int32)) C dX11_lay_75 rfl ?_
          refine r_icmp_ne C 84 dX11_lay_76 (by decide)  (fun h16 => ?_) (fun h16 => ?_)
          · have hF := if_f h16 hF
            refine r_iload_n C 3 3 dX11_lay_84 rfl rfl ?_
            refine r_drop (ls2 := []) [] rfl ?_
            exact hk11 _ _ hF
          · have hF := if_t h16 hF
            refine r_iload_n C 3 3 dX11_lay_79 rfl rfl ?_
            refine r_i2s C dX11_lay_80 ?_
            refine r_goto C 85 dX11_lay_81 (by decide) ?_
            refine r_drop (ls2 := []) [] rfl ?_
            exact hk11 _ _ hF
        · have hF := if_t h17 hF
          refine r_iload_n C 3 3 dX11_lay_64 rfl rfl ?_
          refine r_i2b C dX11_lay_65 ?_
          refine r_goto C 85 dX11_lay_66 (by decide) ?_
          refine r_drop (ls2 := []) [] rfl ?_
          exact hk11 _ _ hF
      · have hF := if_t h18 hF
        refine r_bipush (v := (-12 : Int32)) C dX11_lay_42 rfl ?_
        exact r_ireturn C dX11_lay_44 (rt_e hF)
    · have hF := if_t h19 hF
      refine r_bipush (v := (-11 : Int32)) C dX11_lay_21 rfl ?_
      exact r_ireturn C dX11_lay_23 (rt_e hF)
  · have hF := if_t h20 hF
    refine r_iconst (v := (-1 : Int32)) C dX11_lay_8 rfl ?_
    exact r_ireturn C dX11_lay_9 (rt_e hF)
def F_X11_takesBack (a1 : Int32) (a2 : Int32) (σ : St) : Option (Unit × St) :=
  ck (inb (176 : Int32) 576) (nam (uI σ (41, 0, 0) 176 a1) fun σ2 => ck (inb (174 : Int32) 576) (nam (uI σ2 (41, 0, 0) 174 a2) fun σ4 => some ((), σ4)))
set_option maxRecDepth 20000 in
set_option maxHeartbeats 4000000 in
theorem s_X11_takesBack (G : Gx) (l : Launch) {a1 : Int32} {a2 : Int32} {σ σ' : St}  (hF : F_X11_takesBack a1 a2 σ = some ((), σ')) : Sp G l yX11_takesBack cX11_takesBack 3 none (lvl 0) [vR (40, 0, 0), vI a1, vI a2] σ (va_Qv (fun b => b = σ') (Wd G) (AG G)) := by
  refine Sp_of (own := RX11) (by decide) rfl (Nat.le_of_ble_eq_true rfl) ?_
  intro p e s m args below meth c C
  show Rt G p l e (lvl 0) s m args below meth c 0 0 (MQ below (va_Qv (fun b => b = σ') (Wd G) (AG G)) args s 0 0 (AG G)) 3 0 [(0, vR (40, 0, 0)), (1, vI a1), (2, vI a2)] [] σ
  unfold F_X11_takesBack at hF
  refine r_aload_n C 0 0 dX11_takesBack_0 rfl rfl ?_
  refine r_getR (kf := 0) (d2 := (41, 0, 0)) C dX11_takesBack_1 rfl rfl f_X11 (by decide) t_5_56 rfl rfl ?_
  refine r_sipush (v := (176 : Int32)) C dX11_takesBack_4 rfl ?_
  refine r_iload_n C 1 1 dX11_takesBack_7 rfl rfl ?_
  obtain ⟨h1, hF⟩ := ck_e hF
  obtain ⟨σ2, eσ2, hF⟩ := nam_e hF
  refine r_iastore C 176 dX11_takesBack_8 rfl h1 rfl eσ2 ?_
  refine r_aload_n C 0 0 dX11_takesBack_9 rfl rfl ?_
  refine r_getR (kf := 0) (d2 := (41, 0, 0)) C dX11_takesBack_10 rfl rfl f_X11 (by decide) t_5_56 rfl rfl ?_
  refine r_sipush (v := (174 : Int32)) C dX11_takesBack_13 rfl ?_
  refine r_iload_n C 2 2 dX11_takesBack_16 rfl rfl ?_
  obtain ⟨h3, hF⟩ := ck_e hF
  obtain ⟨σ4, eσ4, hF⟩ := nam_e hF
  refine r_iastore C 174 dX11_takesBack_17 rfl h3 rfl eσ4 ?_
  exact r_return C dX11_takesBack_18 (rv_e hF)
def L_X11_read_67 (c1 : Int32) (c2 : Int32) (c3 : Int32) (c4 : Int32) (c5 : Int32) (c6 : Int32) (c8 : Int32) (c9 : Int32) : Nat → Int32 → Int32 → St → (Int32 → St → Option (Int32 × St)) → Option (Int32 × St)
  | 0, _, _, _, _ => none
  | n + 1, v7, v10, τ, kx154 =>
  (if (3 : Int32) ≤ v10 then kx154 v7 τ else (if v7 = 0 then nam (((c3.toInt64) + (((3 : Int32) * c9).toInt64)) + (v10.toInt64)) fun x11 => ck (inb c1 4) (nam (fun (y13 : Int32) (σ15 : St) => nam (v10 + (1 : Int32)) fun x16 => L_X11_read_67 c1 c2 c3 c4 c5 c6 c8 c9 n y13 x16 σ15 kx154) fun k14 => (if (τ.1 (52, 0, 0) (c1.toNatClampNeg)) = (-4 : Int32) then k14 (1 : Int32) τ else ck (inb c1 4) ((if (τ.1 (52, 0, 0) (c1.toNatClampNeg)) = c2 then (if (lg_cmp x11 (0 : Int64)) < 0 then k14 (2 : Int32) τ else ck (inb c1 4) ((if (lg_cmp x11 ((τ.1 (53, 0, 0) (c1.toNatClampNeg)).toInt64)) < 0 then k14 (0 : Int32) τ else k14 (2 : Int32) τ))) else k14 (3 : Int32) τ)))) else kx154 v7 τ))
def L_X11_read_52 (c1 : Int32) (c2 : Int32) (c3 : Int32) (c4 : Int32) (c5 : Int32) (c6 : Int32) : Nat → Int32 → Int32 → Int32 → St → (Int32 → Int32 → St → Option (Int32 × St)) → (Int32 → Int32 → St → Option (Int32 × St)) → Option (Int32 × St)
  | 0, _, _, _, _, _, _ => none
  | n + 1, v7, v8, v9, τ, kx208, kx243 =>
  (if c4 ≤ v9 then kx243 v7 v8 τ else (if v7 = 0 then L_X11_read_67 c1 c2 c3 c4 c5 c6 v8 v9 FU v7 (0 : Int32) τ (fun (y26 : Int32) (σ25 : St) => (if y26 = 0 then ck (inb ((((40 : Int32) * c1) + c3) + ((3 : Int32) * v9)) 160) (ck (inb (((((40 : Int32) * c1) + c3) + ((3 : Int32) * v9)) + (1 : Int32)) 160) (ck (inb (((((40 : Int32) * c1) + c3) + ((3 : Int32) * v9)) + (2 : Int32)) 160) (bd (F_X11_drop (σ25.1 (54, 0, 0) (((((40 : Int32) * c1) + c3) + ((3 : Int32) * v9)).toNatClampNeg)) (σ25.1 (54, 0, 0) ((((((40 : Int32) * c1) + c3) + ((3 : Int32) * v9)) + (1 : Int32)).toNatClampNeg)) (σ25.1 (54, 0, 0) ((((((40 : Int32) * c1) + c3) + ((3 : Int32) * v9)) + (2 : Int32)).toNatClampNeg)) σ25) fun r32 σ31 => (if 0 ≤ r32 then nam (v8 + (1 : Int32)) fun x34 => nam (v9 + (1 : Int32)) fun x35 => L_X11_read_52 c1 c2 c3 c4 c5 c6 n y26 x34 x35 σ31 kx208 kx243 else kx208 v9 r32 σ31)))) else nam (v9 + (1 : Int32)) fun x27 => L_X11_read_52 c1 c2 c3 c4 c5 c6 n y26 v8 x27 σ25 kx208 kx243)) else kx243 v7 v8 τ))
def F_X11_read (a1 : Int32) (a2 : Int32) (a3 : Int32) (a4 : Int32) (σ : St) : Option (Int32 × St) :=
  bd (F_X11_isSheet a1 a2 σ) fun r2 σ1 => (if r2 = 0 then some ((-1 : Int32), σ1) else bd (F_X11_in (a4.toInt64) (0 : Int64) (12 : Int64) σ1) fun r5 σ4 => (if r5 = 0 then some ((-1 : Int32), σ4) else ck (inb (176 : Int32) 576) (nam (σ4.1 (41, 0, 0) 176) fun x8 => ck (inb (174 : Int32) 576) (nam (σ4.1 (41, 0, 0) 174) fun x10 => L_X11_read_52 a1 a2 a3 a4 x8 x10 FU (0 : Int32) (0 : Int32) (0 : Int32) σ4 (fun (y41 : Int32) (y42 : Int32) (σ40 : St) => bd (F_X11_takesBack x8 x10 σ40) fun _ σ43 => (if y42 = (-3 : Int32) then some ((-3 : Int32), σ43) else some ((-20 : Int32) - y41, σ43))) (fun (y47 : Int32) (y48 : Int32) (σ46 : St) => nam (uI σ46 (40, 0, 0) 28 y47) fun σ49 => some (y48, σ49))))))
set_option maxRecDepth 20000 in
set_option maxHeartbeats 4000000 in
theorem l_X11_read_67 {G : Gx} {p : Program} {l : Launch} {e : Env} {s : State} {m : MethodId} {args : Array Value} {below : List Frame} {meth : Method} {c : Code} (C : Cx G p s m args meth c (some .int) 13 RX11 cX11_read) (c1 : Int32) (c2 : Int32) (c3 : Int32) (c4 : Int32) (c5 : Int32) (c6 : Int32) (c8 : Int32) (c9 : Int32) {σ' : St} {r : Int32} (kx154 : Int32 → St → Option (Int32 × St)) (hkx154 : ∀ (w7 : Int32) (τ : St), kx154 w7 τ = some (r, σ') → Rt G p l e (lvl 4) s m args below meth c 0 0 (MQ below (va_Qi (fun a b => a = r ∧ b = σ') (Wd G) (AG G)) args s 0 0 (AG G)) 13 154 [(0, vR (40, 0, 0)), (1, vI c1), (2, vI c2), (3, vI c3), (4, vI c4), (5, vI c5), (6, vI c6), (7, vI w7), (8, vI c8), (9, vI c9)] [] τ) : ∀ (n : Nat) (v7 : Int32) (v10 : Int32) (τ : St), L_X11_read_67 c1 c2 c3 c4 c5 c6 c8 c9 n v7 v10 τ kx154 = some (r, σ') → Rt G p l e (lvl 4) s m args below meth c 0 0 (MQ below (va_Qi (fun a b => a = r ∧ b = σ') (Wd G) (AG G)) args s 0 0 (AG G)) 13 67 [(0, vR (40, 0, 0)), (1, vI c1), (2, vI c2), (3, vI c3), (4, vI c4), (5, vI c5), (6, vI c6), (7, vI v7), (8, vI c8), (9, vI c9), (10, vI v10)] [] τ := by
  intro n
  induction n with
  | zero => intro v7 v10 τ hF; cases hF
  | succ n ih =>
    intro v7 v10 τ hF
    unfold L_X11_read_67 at hF
    refine r_iload C 10 dX11_read_67 rfl ?_
    refine r_iconst (v := (3 : Int32)) C dX11_read_69 rfl ?_
    refine r_icmp_ge C 154 dX11_read_70 (by decide)  (fun h24 => ?_) (fun h24 => ?_)
    · have hF := if_t h24 hF
      refine r_drop (ls2 := [(0, vR (40, 0, 0)), (1, vI c1), (2, vI c2), (3, vI c3), (4, vI c4), (5, vI c5), (6, vI c6), (7, vI v7), (8, vI c8), (9, vI c9)]) [0, 1, 2, 3, 4, 5, 6, 7, 8, 9] rfl ?_
      exact hkx154 _ _ hF
    · have hF := if_f h24 hF
      refine r_iload C 7 dX11_read_73 rfl ?_
      refine r_if_ne C 154 dX11_read_75 (by decide)  (fun h23 => ?_) (fun h23 => ?_)
      · have hF := if_f h23 hF
        refine r_drop (ls2 := [(0, vR (40, 0, 0)), (1, vI c1), (2, vI c2), (3, vI c3), (4, vI c4), (5, vI c5), (6, vI c6), (7, vI v7), (8, vI c8), (9, vI c9)]) [0, 1, 2, 3, 4, 5, 6, 7, 8, 9] rfl ?_
        exact hkx154 _ _ hF
      · have hF := if_t h23 hF
        refine r_iload_n C 3 3 dX11_read_78 rfl rfl ?_
        refine r_i2l C dX11_read_79 ?_
        refine r_iconst (v := (3 : Int32)) C dX11_read_80 rfl ?_
        refine r_iload C 9 dX11_read_81 rfl ?_
        refine r_imul C dX11_read_83 ?_
        refine r_i2l C dX11_read_84 ?_
        refine r_ladd C dX11_read_85 ?_
        refine r_iload C 10 dX11_read_86 rfl ?_
        refine r_i2l C dX11_read_88 ?_
        refine r_ladd C dX11_read_89 ?_
        obtain ⟨x11, ex11, hF⟩ := nam_e hF
        refine r_topL ex11 ?_
        refine r_lstore (ls2 := [(11, vL x11), (0, vR (40, 0, 0)), (1, vI c1), (2, vI c2), (3, vI c3), (4, vI c4), (5, vI c5), (6, vI c6), (7, vI v7), (8, vI c8), (9, vI c9), (10, vI v10)]) C dX11_read_90 (by decide) rfl ?_
        refine r_aload_n C 1 0 dX11_read_92 rfl rfl ?_
        refine r_getR (kf := 25) (d2 := (52, 0, 0)) C dX11_read_93 rfl rfl f_X11 (by decide) t_5_81 rfl rfl ?_
        refine r_iload_n C 2 1 dX11_read_96 rfl rfl ?_
        obtain ⟨h12, hF⟩ := ck_e hF
        refine r_iaload C (c1.toNatClampNeg) dX11_read_97 rfl h12 rfl ?_
        refine r_bipush (v := (-4 : Int32)) C dX11_read_98 rfl ?_
        obtain ⟨k14, ek14, hF⟩ := nam_e hF
        have hk14 : ∀ (y13 : Int32) (σ15 : St), k14 y13 σ15 = some (r, σ') → Rt G p l e (lvl 4) s m args below meth c 0 0 (MQ below (va_Qi (fun a b => a = r ∧ b = σ') (Wd G) (AG G)) args s 0 0 (AG G)) 13 146 [(0, vR (40, 0, 0)), (1, vI c1), (2, vI c2), (3, vI c3), (4, vI c4), (5, vI c5), (6, vI c6), (8, vI c8), (9, vI c9), (10, vI v10)] [vI y13] σ15 := by
          intro y13 σ15 hF
          subst ek14
          refine r_istore (ls2 := [(7, vI y13), (0, vR (40, 0, 0)), (1, vI c1), (2, vI c2), (3, vI c3), (4, vI c4), (5, vI c5), (6, vI c6), (8, vI c8), (9, vI c9), (10, vI v10)]) C dX11_read_146 (by decide) rfl ?_
          obtain ⟨x16, ex16, hF⟩ := nam_e hF
          refine r_iinc (v := x16) (ls2 := [(10, vI x16), (7, vI y13), (0, vR (40, 0, 0)), (1, vI c1), (2, vI c2), (3, vI c3), (4, vI c4), (5, vI c5), (6, vI c6), (8, vI c8), (9, vI c9)]) C 10 dX11_read_148 rfl ex16.symm (by decide) rfl ?_
          refine r_goto C 67 dX11_read_151 (by decide) ?_
          refine r_drop (ls2 := [(0, vR (40, 0, 0)), (1, vI c1), (2, vI c2), (3, vI c3), (4, vI c4), (5, vI c5), (6, vI c6), (7, vI y13), (8, vI c8), (9, vI c9), (10, vI x16)]) [2, 3, 4, 5, 6, 7, 8, 1, 9, 10, 0] rfl ?_
          exact ih _ _ _ hF
        refine r_icmp_ne C 107 dX11_read_100 (by decide)  (fun h22 => ?_) (fun h22 => ?_)
        · have hF := if_f h22 hF
          refine r_aload_n C 1 0 dX11_read_107 rfl rfl ?_
          refine r_getR (kf := 25) (d2 := (52, 0, 0)) C dX11_read_108 rfl rfl f_X11 (by decide) t_5_81 rfl rfl ?_
          refine r_iload_n C 2 1 dX11_read_111 rfl rfl ?_
          obtain ⟨h17, hF⟩ := ck_e hF
          refine r_iaload C (c1.toNatClampNeg) dX11_read_112 rfl h17 rfl ?_
          refine r_iload_n C 3 2 dX11_read_113 rfl rfl ?_
          refine r_icmp_eq C 121 dX11_read_114 (by decide)  (fun h21 => ?_) (fun h21 => ?_)
          · have hF := if_t h21 hF
            refine r_lload C 0 dX11_read_121 rfl ?_
            refine r_lconst (v := (0 : Int64)) C dX11_read_123 rfl ?_
            refine r_lcmp C dX11_read_124 ?_
            refine r_if_lt C 141 dX11_read_125 (by decide)  (fun h20 => ?_) (fun h20 => ?_)
            · have hF := if_t h20 hF
              refine r_iconst (v := (2 : Int32)) C dX11_read_141 rfl ?_
              refine r_goto C 146 dX11_read_142 (by decide) ?_
              refine r_drop (ls2 := [(0, vR (40, 0, 0)), (1, vI c1), (2, vI c2), (3, vI c3), (4, vI c4), (5, vI c5), (6, vI c6), (8, vI c8), (9, vI c9), (10, vI v10)]) [1, 2, 3, 4, 5, 6, 7, 9, 10, 11] rfl ?_
              exact hk14 _ _ hF
            · have hF := if_f h20 hF
              refine r_lload C 0 dX11_read_128 rfl ?_
              refine r_aload_n C 1 0 dX11_read_130 rfl rfl ?_
              refine r_getR (kf := 26) (d2 := (53, 0, 0)) C dX11_read_131 rfl rfl f_X11 (by decide) t_5_82 rfl rfl ?_
              refine r_iload_n C 2 1 dX11_read_134 rfl rfl ?_
              obtain ⟨h18, hF⟩ := ck_e hF
              refine r_iaload C (c1.toNatClampNeg) dX11_read_135 rfl h18 rfl ?_
              refine r_i2l C dX11_read_136 ?_
              refine r_lcmp C dX11_read_137 ?_
              refine r_if_lt C 145 dX11_read_138 (by decide)  (fun h19 => ?_) (fun h19 => ?_)
              · have hF := if_t h19 hF
                refine r_iconst (v := (0 : Int32)) C dX11_read_145 rfl ?_
                refine r_drop (ls2 := [(0, vR (40, 0, 0)), (1, vI c1), (2, vI c2), (3, vI c3), (4, vI c4), (5, vI c5), (6, vI c6), (8, vI c8), (9, vI c9), (10, vI v10)]) [1, 2, 3, 4, 5, 6, 7, 9, 10, 11] rfl ?_
                exact hk14 _ _ hF
              · have hF := if_f h19 hF
                refine r_iconst (v := (2 : Int32)) C dX11_read_141 rfl ?_
                refine r_goto C 146 dX11_read_142 (by decide) ?_
                refine r_drop (ls2 := [(0, vR (40, 0, 0)), (1, vI c1), (2, vI c2), (3, vI c3), (4, vI c4), (5, vI c5), (6, vI c6), (8, vI c8), (9, vI c9), (10, vI v10)]) [1, 2, 3, 4, 5, 6, 7, 9, 10, 11] rfl ?_
                exact hk14 _ _ hF
          · have hF := if_f h21 hF
            refine r_iconst (v := (3 : Int32)) C dX11_read_117 rfl ?_
            refine r_goto C 146 dX11_read_118 (by decide) ?_
            refine r_drop (ls2 := [(0, vR (40, 0, 0)), (1, vI c1), (2, vI c2), (3, vI c3), (4, vI c4), (5, vI c5), (6, vI c6), (8, vI c8), (9, vI c9), (10, vI v10)]) [1, 2, 3, 4, 5, 6, 7, 9, 10, 11] rfl ?_
            exact hk14 _ _ hF
        · have hF := if_t h22 hF
          refine r_iconst (v := (1 : Int32)) C dX11_read_103 rfl ?_
          refine r_goto C 146 dX11_read_104 (by decide) ?_
          refine r_drop (ls2 := [(0, vR (40, 0, 0)), (1, vI c1), (2, vI c2), (3, vI c3), (4, vI c4), (5, vI c5), (6, vI c6), (8, vI c8), (9, vI c9), (10, vI v10)]) [1, 2, 3, 4, 5, 6, 7, 9, 10, 11] rfl ?_
          exact hk14 _ _ hF
set_option maxRecDepth 20000 in
set_option maxHeartbeats 4000000 in
theorem l_X11_read_52 {G : Gx} {p : Program} {l : Launch} {e : Env} {s : State} {m : MethodId} {args : Array Value} {below : List Frame} {meth : Method} {c : Code} (C : Cx G p s m args meth c (some .int) 13 RX11 cX11_read) (c1 : Int32) (c2 : Int32) (c3 : Int32) (c4 : Int32) (c5 : Int32) (c6 : Int32) {σ' : St} {r : Int32} (kx208 : Int32 → Int32 → St → Option (Int32 × St)) (hkx208 : ∀ (w9 : Int32) (w11 : Int32) (τ : St), kx208 w9 w11 τ = some (r, σ') → Rt G p l e (lvl 4) s m args below meth c 0 0 (MQ below (va_Qi (fun a b => a = r ∧ b = σ') (Wd G) (AG G)) args s 0 0 (AG G)) 13 208 [(0, vR (40, 0, 0)), (5, vI c5), (6, vI c6), (9, vI w9), (11, vI w11)] [] τ) (kx243 : Int32 → Int32 → St → Option (Int32 × St)) (hkx243 : ∀ (w7 : Int32) (w8 : Int32) (τ : St), kx243 w7 w8 τ = some (r, σ') → Rt G p l e (lvl 4) s m args below meth c 0 0 (MQ below (va_Qi (fun a b => a = r ∧ b = σ') (Wd G) (AG G)) args s 0 0 (AG G)) 13 243 [(0, vR (40, 0, 0)), (7, vI w7), (8, vI w8)] [] τ) : ∀ (n : Nat) (v7 : Int32) (v8 : Int32) (v9 : Int32) (τ : St), L_X11_read_52 c1 c2 c3 c4 c5 c6 n v7 v8 v9 τ kx208 kx243 = some (r, σ') → Rt G p l e (lvl 4) s m args below meth c 0 0 (MQ below (va_Qi (fun a b => a = r ∧ b = σ') (Wd G) (AG G)) args s 0 0 (AG G)) 13 52 [(0, vR (40, 0, 0)), (1, vI c1), (2, vI c2), (3, vI c3), (4, vI c4), (5, vI c5), (6, vI c6), (7, vI v7), (8, vI v8), (9, vI v9)] [] τ := by
  intro n
  induction n with
  | zero => intro v7 v8 v9 τ hF; cases hF
  | succ n ih =>
    intro v7 v8 v9 τ hF
    unfold L_X11_read_52 at hF
    refine r_iload C 9 dX11_read_52 rfl ?_
    refine r_iload C 4 dX11_read_54 rfl ?_
    refine r_icmp_ge C 243 dX11_read_56 (by decide)  (fun h39 => ?_) (fun h39 => ?_)
    · have hF := if_t h39 hF
      refine r_drop (ls2 := [(0, vR (40, 0, 0)), (7, vI v7), (8, vI v8)]) [0, 7, 8] rfl ?_
      exact hkx243 _ _ _ hF
    · have hF := if_f h39 hF
      refine r_iload C 7 dX11_read_59 rfl ?_
      refine r_if_ne C 243 dX11_read_61 (by decide)  (fun h38 => ?_) (fun h38 => ?_)
      · have hF := if_f h38 hF
        refine r_drop (ls2 := [(0, vR (40, 0, 0)), (7, vI v7), (8, vI v8)]) [0, 7, 8] rfl ?_
        exact hkx243 _ _ _ hF
      · have hF := if_t h38 hF
        refine r_iconst (v := (0 : Int32)) C dX11_read_64 rfl ?_
        refine r_istore (ls2 := [(10, vI (0 : Int32)), (0, vR (40, 0, 0)), (1, vI c1), (2, vI c2), (3, vI c3), (4, vI c4), (5, vI c5), (6, vI c6), (7, vI v7), (8, vI v8), (9, vI v9)]) C dX11_read_65 (by decide) rfl ?_
        refine r_drop (ls2 := [(0, vR (40, 0, 0)), (1, vI c1), (2, vI c2), (3, vI c3), (4, vI c4), (5, vI c5), (6, vI c6), (7, vI v7), (8, vI v8), (9, vI v9), (10, vI (0 : Int32))]) [1, 2, 3, 4, 5, 6, 7, 8, 9, 10, 0] rfl ?_
        refine l_X11_read_67 C c1 c2 c3 c4 c5 c6 v8 v9 _ ?_ _ _ _ _ hF
        · intro y26 σ25 hF
          refine r_iload C 7 dX11_read_154 rfl ?_
          refine r_if_ne C 237 dX11_read_156 (by decide)  (fun h37 => ?_) (fun h37 => ?_)
          · have hF := if_f h37 hF
            obtain ⟨x27, ex27, hF⟩ := nam_e hF
            refine r_iinc (v := x27) (ls2 := [(9, vI x27), (0, vR (40, 0, 0)), (1, vI c1), (2, vI c2), (3, vI c3), (4, vI c4), (5, vI c5), (6, vI c6), (7, vI y26), (8, vI v8)]) C 9 dX11_read_237 rfl ex27.symm (by decide) rfl ?_
            refine r_goto C 52 dX11_read_240 (by decide) ?_
            refine r_drop (ls2 := [(0, vR (40, 0, 0)), (1, vI c1), (2, vI c2), (3, vI c3), (4, vI c4), (5, vI c5), (6, vI c6), (7, vI y26), (8, vI v8), (9, vI x27)]) [1, 2, 3, 4, 5, 6, 7, 8, 9, 0] rfl ?_
            exact ih _ _ _ _ hF
          · have hF := if_t h37 hF
            refine r_bipush (v := (40 : Int32)) C dX11_read_159 rfl ?_
            refine r_iload_n C 1 1 dX11_read_161 rfl rfl ?_
            refine r_imul C dX11_read_162 ?_
            refine r_iload_n C 3 3 dX11_read_163 rfl rfl ?_
            refine r_iadd C dX11_read_164 ?_
            refine r_iconst (v := (3 : Int32)) C dX11_read_165 rfl ?_
            refine r_iload C 9 dX11_read_166 rfl ?_
            refine r_imul C dX11_read_168 ?_
            refine r_iadd C dX11_read_169 ?_
            refine r_istore (ls2 := [(10, vI ((((40 : Int32) * c1) + c3) + ((3 : Int32) * v9))), (0, vR (40, 0, 0)), (1, vI c1), (2, vI c2), (3, vI c3), (4, vI c4), (5, vI c5), (6, vI c6), (7, vI y26), (8, vI v8), (9, vI v9)]) C dX11_read_170 (by decide) rfl ?_
            refine r_aload_n C 1 0 dX11_read_172 rfl rfl ?_
            refine r_aload_n C 1 0 dX11_read_173 rfl rfl ?_
            refine r_getR (kf := 27) (d2 := (54, 0, 0)) C dX11_read_174 rfl rfl f_X11 (by decide) t_5_83 rfl rfl ?_
            refine r_iload C 0 dX11_read_177 rfl ?_
            obtain ⟨h28, hF⟩ := ck_e hF
            refine r_iaload C (((((40 : Int32) * c1) + c3) + ((3 : Int32) * v9)).toNatClampNeg) dX11_read_179 rfl h28 rfl ?_
            refine r_aload_n C 1 0 dX11_read_180 rfl rfl ?_
            refine r_getR (kf := 27) (d2 := (54, 0, 0)) C dX11_read_181 rfl rfl f_X11 (by decide) t_5_83 rfl rfl ?_
            refine r_iload C 0 dX11_read_184 rfl ?_
            refine r_iconst (v := (1 : Int32)) C dX11_read_186 rfl ?_
            refine r_iadd C dX11_read_187 ?_
            obtain ⟨h29, hF⟩ := ck_e hF
            refine r_iaload C ((((((40 : Int32) * c1) + c3) + ((3 : Int32) * v9)) + (1 : Int32)).toNatClampNeg) dX11_read_188 rfl h29 rfl ?_
            refine r_aload_n C 1 0 dX11_read_189 rfl rfl ?_
            refine r_getR (kf := 27) (d2 := (54, 0, 0)) C dX11_read_190 rfl rfl f_X11 (by decide) t_5_83 rfl rfl ?_
            refine r_iload C 0 dX11_read_193 rfl ?_
            refine r_iconst (v := (2 : Int32)) C dX11_read_195 rfl ?_
            refine r_iadd C dX11_read_196 ?_
            obtain ⟨h30, hF⟩ := ck_e hF
            refine r_iaload C ((((((40 : Int32) * c1) + c3) + ((3 : Int32) * v9)) + (2 : Int32)).toNatClampNeg) dX11_read_197 rfl h30 rfl ?_
            obtain ⟨r32, σ31, e33, hF⟩ := bd_e hF
            refine r_callV_i (as := [vI (σ25.1 (54, 0, 0) (((((40 : Int32) * c1) + c3) + ((3 : Int32) * v9)).toNatClampNeg)), vI (σ25.1 (54, 0, 0) ((((((40 : Int32) * c1) + c3) + ((3 : Int32) * v9)) + (1 : Int32)).toNatClampNeg)), vI (σ25.1 (54, 0, 0) ((((((40 : Int32) * c1) + c3) + ((3 : Int32) * v9)) + (2 : Int32)).toNatClampNeg))]) (st := []) C dX11_read_198 (s_X11_drop G l e33) rfl rfl rfl t_7_3 t_6_9 t_6_10 t_1_14 t_6_11 m_X11_drop ⟨Nat.le_of_ble_eq_true rfl, Nat.le_of_ble_eq_true rfl⟩ ⟨rfl, rfl⟩ ⟨Nat.zero_le _, Nat.zero_le _⟩ rfl (Nat.le_of_ble_eq_true rfl) ?_
            refine r_istore (ls2 := [(11, vI r32), (10, vI ((((40 : Int32) * c1) + c3) + ((3 : Int32) * v9))), (0, vR (40, 0, 0)), (1, vI c1), (2, vI c2), (3, vI c3), (4, vI c4), (5, vI c5), (6, vI c6), (7, vI y26), (8, vI v8), (9, vI v9)]) C dX11_read_201 (by decide) rfl ?_
            refine r_iload C 0 dX11_read_203 rfl ?_
            refine r_if_ge C 234 dX11_read_205 (by decide)  (fun h36 => ?_) (fun h36 => ?_)
            · have hF := if_t h36 hF
              obtain ⟨x34, ex34, hF⟩ := nam_e hF
              refine r_iinc (v := x34) (ls2 := [(8, vI x34), (11, vI r32), (10, vI ((((40 : Int32) * c1) + c3) + ((3 : Int32) * v9))), (0, vR (40, 0, 0)), (1, vI c1), (2, vI c2), (3, vI c3), (4, vI c4), (5, vI c5), (6, vI c6), (7, vI y26), (9, vI v9)]) C 10 dX11_read_234 rfl ex34.symm (by decide) rfl ?_
              obtain ⟨x35, ex35, hF⟩ := nam_e hF
              refine r_iinc (v := x35) (ls2 := [(9, vI x35), (8, vI x34), (11, vI r32), (10, vI ((((40 : Int32) * c1) + c3) + ((3 : Int32) * v9))), (0, vR (40, 0, 0)), (1, vI c1), (2, vI c2), (3, vI c3), (4, vI c4), (5, vI c5), (6, vI c6), (7, vI y26)]) C 11 dX11_read_237 rfl ex35.symm (by decide) rfl ?_
              refine r_goto C 52 dX11_read_240 (by decide) ?_
              refine r_drop (ls2 := [(0, vR (40, 0, 0)), (1, vI c1), (2, vI c2), (3, vI c3), (4, vI c4), (5, vI c5), (6, vI c6), (7, vI y26), (8, vI x34), (9, vI x35)]) [4, 5, 6, 7, 8, 9, 10, 11, 1, 0] rfl ?_
              exact ih _ _ _ _ hF
            · have hF := if_f h36 hF
              refine r_drop (ls2 := [(0, vR (40, 0, 0)), (5, vI c5), (6, vI c6), (9, vI v9), (11, vI r32)]) [2, 7, 8, 11, 0] rfl ?_
              exact hkx208 _ _ _ hF
set_option maxRecDepth 20000 in
set_option maxHeartbeats 4000000 in
theorem s_X11_read (G : Gx) (l : Launch) {a1 : Int32} {a2 : Int32} {a3 : Int32} {a4 : Int32} {σ σ' : St} {r : Int32} (hF : F_X11_read a1 a2 a3 a4 σ = some (r, σ')) : Sp G l yX11_read cX11_read 13 (some .int) (lvl 4) [vR (40, 0, 0), vI a1, vI a2, vI a3, vI a4] σ (va_Qi (fun a b => a = r ∧ b = σ') (Wd G) (AG G)) := by
  refine Sp_of (own := RX11) (by decide) rfl (Nat.le_of_ble_eq_true rfl) ?_
  intro p e s m args below meth c C
  show Rt G p l e (lvl 4) s m args below meth c 0 0 (MQ below (va_Qi (fun a b => a = r ∧ b = σ') (Wd G) (AG G)) args s 0 0 (AG G)) 13 0 [(0, vR (40, 0, 0)), (1, vI a1), (2, vI a2), (3, vI a3), (4, vI a4)] [] σ
  unfold F_X11_read at hF
  refine r_iload_n C 1 1 dX11_read_0 rfl rfl ?_
  refine r_iload_n C 2 2 dX11_read_1 rfl rfl ?_
  obtain ⟨r2, σ1, e3, hF⟩ := bd_e hF
  refine r_callS_i (as := [vI a1, vI a2]) (st := []) C dX11_read_2 (s_X11_isSheet G l e3) t_6_231 t_6_232 t_1_14 t_6_233 m_X11_isSheet ⟨Nat.le_of_ble_eq_true rfl, Nat.le_of_ble_eq_true rfl⟩ ⟨rfl, rfl⟩ ⟨Nat.zero_le _, Nat.zero_le _⟩ rfl (Nat.le_of_ble_eq_true rfl) ?_
  refine r_if_eq C 21 dX11_read_5 (by decide)  (fun h51 => ?_) (fun h51 => ?_)
  · have hF := if_t h51 hF
    refine r_iconst (v := (-1 : Int32)) C dX11_read_21 rfl ?_
    exact r_ireturn C dX11_read_22 (rt_e hF)
  · have hF := if_f h51 hF
    refine r_iload C 4 dX11_read_8 rfl ?_
    refine r_i2l C dX11_read_10 ?_
    refine r_lconst (v := (0 : Int64)) C dX11_read_11 rfl ?_
    refine r_ldc2_w (v := (12 : Int64)) C dX11_read_12 t_7_2 ?_
    obtain ⟨r5, σ4, e6, hF⟩ := bd_e hF
    refine r_callS_i (as := [vL (a4.toInt64), vL (0 : Int64), vL (12 : Int64)]) (st := []) C dX11_read_15 (s_X11_in G l e6) t_5_153 t_5_154 t_1_14 t_5_155 m_X11_in ⟨Nat.le_of_ble_eq_true rfl, Nat.le_of_ble_eq_true rfl⟩ ⟨rfl, rfl⟩ ⟨Nat.zero_le _, Nat.zero_le _⟩ rfl (Nat.le_of_ble_eq_true rfl) ?_
    refine r_if_ne C 23 dX11_read_18 (by decide)  (fun h50 => ?_) (fun h50 => ?_)
    · have hF := if_f h50 hF
      refine r_aload_n C 0 0 dX11_read_23 rfl rfl ?_
      refine r_getR (kf := 0) (d2 := (41, 0, 0)) C dX11_read_24 rfl rfl f_X11 (by decide) t_5_56 rfl rfl ?_
      refine r_sipush (v := (176 : Int32)) C dX11_read_27 rfl ?_
      obtain ⟨h7, hF⟩ := ck_e hF
      refine r_iaload C 176 dX11_read_30 rfl h7 rfl ?_
      obtain ⟨x8, ex8, hF⟩ := nam_e hF
      refine r_topI ex8 ?_
      refine r_istore (ls2 := [(5, vI x8), (0, vR (40, 0, 0)), (1, vI a1), (2, vI a2), (3, vI a3), (4, vI a4)]) C dX11_read_31 (by decide) rfl ?_
      refine r_aload_n C 1 0 dX11_read_33 rfl rfl ?_
      refine r_getR (kf := 0) (d2 := (41, 0, 0)) C dX11_read_34 rfl rfl f_X11 (by decide) t_5_56 rfl rfl ?_
      refine r_sipush (v := (174 : Int32)) C dX11_read_37 rfl ?_
      obtain ⟨h9, hF⟩ := ck_e hF
      refine r_iaload C 174 dX11_read_40 rfl h9 rfl ?_
      obtain ⟨x10, ex10, hF⟩ := nam_e hF
      refine r_topI ex10 ?_
      refine r_istore (ls2 := [(6, vI x10), (5, vI x8), (0, vR (40, 0, 0)), (1, vI a1), (2, vI a2), (3, vI a3), (4, vI a4)]) C dX11_read_41 (by decide) rfl ?_
      refine r_iconst (v := (0 : Int32)) C dX11_read_43 rfl ?_
      refine r_istore (ls2 := [(7, vI (0 : Int32)), (6, vI x10), (5, vI x8), (0, vR (40, 0, 0)), (1, vI a1), (2, vI a2), (3, vI a3), (4, vI a4)]) C dX11_read_44 (by decide) rfl ?_
      refine r_iconst (v := (0 : Int32)) C dX11_read_46 rfl ?_
      refine r_istore (ls2 := [(8, vI (0 : Int32)), (7, vI (0 : Int32)), (6, vI x10), (5, vI x8), (0, vR (40, 0, 0)), (1, vI a1), (2, vI a2), (3, vI a3), (4, vI a4)]) C dX11_read_47 (by decide) rfl ?_
      refine r_iconst (v := (0 : Int32)) C dX11_read_49 rfl ?_
      refine r_istore (ls2 := [(9, vI (0 : Int32)), (8, vI (0 : Int32)), (7, vI (0 : Int32)), (6, vI x10), (5, vI x8), (0, vR (40, 0, 0)), (1, vI a1), (2, vI a2), (3, vI a3), (4, vI a4)]) C dX11_read_50 (by decide) rfl ?_
      refine r_drop (ls2 := [(0, vR (40, 0, 0)), (1, vI a1), (2, vI a2), (3, vI a3), (4, vI a4), (5, vI x8), (6, vI x10), (7, vI (0 : Int32)), (8, vI (0 : Int32)), (9, vI (0 : Int32))]) [5, 6, 7, 8, 9, 4, 3, 2, 1, 0] rfl ?_
      refine l_X11_read_52 C a1 a2 a3 a4 x8 x10 _ ?_ _ ?_ _ _ _ _ _ hF
      · intro y41 y42 σ40 hF
        refine r_aload_n C 0 0 dX11_read_208 rfl rfl ?_
        refine r_iload C 1 dX11_read_209 rfl ?_
        refine r_iload C 2 dX11_read_211 rfl ?_
        obtain ⟨⟨⟩, σ43, e44, hF⟩ := bd_e hF
        refine r_callV_v (as := [vI x8, vI x10]) (st := []) C dX11_read_213 (s_X11_takesBack G l e44) rfl rfl rfl t_7_4 t_7_6 t_s_58 t_1_14 t_7_7 m_X11_takesBack ⟨Nat.le_of_ble_eq_true rfl, Nat.le_of_ble_eq_true rfl⟩ ⟨rfl, rfl⟩ ⟨Nat.zero_le _, Nat.zero_le _⟩ rfl (Nat.le_of_ble_eq_true rfl) ?_
        refine r_iload C 4 dX11_read_216 rfl ?_
        refine r_bipush (v := (-3 : Int32)) C dX11_read_218 rfl ?_
        refine r_icmp_ne C 228 dX11_read_220 (by decide)  (fun h45 => ?_) (fun h45 => ?_)
        · have hF := if_f h45 hF
          refine r_bipush (v := (-20 : Int32)) C dX11_read_228 rfl ?_
          refine r_iload C 3 dX11_read_230 rfl ?_
          refine r_isub C dX11_read_232 ?_
          exact r_ireturn C dX11_read_233 (rt_e hF)
        · have hF := if_t h45 hF
          refine r_bipush (v := (-3 : Int32)) C dX11_read_223 rfl ?_
          refine r_goto C 233 dX11_read_225 (by decide) ?_
          exact r_ireturn C dX11_read_233 (rt_e hF)
      · intro y47 y48 σ46 hF
        refine r_aload_n C 0 0 dX11_read_243 rfl rfl ?_
        refine r_iload C 1 dX11_read_244 rfl ?_
        obtain ⟨σ49, eσ49, hF⟩ := nam_e hF
        refine r_put (kf := 28) (ty0 := tyX11) C dX11_read_246 rfl rfl f_X11 tyX11_ok nmX11 (by decide) t_5_84 rfl rfl rfl rfl eσ49 ?_
        refine r_iload C 2 dX11_read_249 rfl ?_
        exact r_ireturn C dX11_read_251 (rt_e hF)
    · have hF := if_t h50 hF
      refine r_iconst (v := (-1 : Int32)) C dX11_read_21 rfl ?_
      exact r_ireturn C dX11_read_22 (rt_e hF)
