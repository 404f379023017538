def F_X10_torn  (σ : St) : Option (Int32 × St) :=
  some (σ.1 (0, 0, 0) 12, σ)
set_option maxRecDepth 20000 in
set_option maxHeartbeats 4000000 in
theorem s_X10_torn (G : Gx) (l : Launch)  {σ σ' : St} {r : Int32} (hF : F_X10_torn  σ = some (r, σ')) : Sp G l yX10_torn cX10_torn 1 (some .int) (lvl 0) [vR (0, 0, 0)] σ (va_Qi (fun a b => a = r ∧ b = σ') (Wd G) (AG G)) := by
  refine Sp_of (own := RX10) (by decide) rfl (Nat.le_of_ble_eq_true rfl) ?_
  intro p e s m args below meth c C
  show Rt G p l e (lvl 0) s m args below meth c 0 0 (MQ below (va_Qi (fun a b => a = r ∧ b = σ') (Wd G) (AG G)) args s 0 0 (AG G)) 1 0 [(0, vR (0, 0, 0))] [] σ
  unfold F_X10_torn at hF
  refine r_aload_n C 0 0 dX10_torn_0 rfl rfl ?_
  refine r_getI (kf := 12) C dX10_torn_1 rfl rfl f_X10 (by decide) t_2_107 rfl ?_
  exact r_ireturn C dX10_torn_4 (rt_e hF)
def L_X10_howManyImages_4  : Nat → Int32 → Int32 → St → Option (Int32 × St)
  | 0, _, _, _ => none
  | n + 1, v1, v2, τ =>
  (if (2 : Int32) ≤ v2 then some (v1, τ) else ck (inb v2 2) (nam (fun (y2 : Int32) (σ4 : St) => nam (v1 + y2) fun x5 => nam (v2 + (1 : Int32)) fun x6 => L_X10_howManyImages_4 n x5 x6 σ4) fun k3 => (if (τ.1 (12, (v2.toNatClampNeg), 0) 1) = 0 then k3 (0 : Int32) τ else k3 (1 : Int32) τ)))
def F_X10_howManyImages  (σ : St) : Option (Int32 × St) :=
  L_X10_howManyImages_4  FU (0 : Int32) (0 : Int32) σ 
set_option maxRecDepth 20000 in
set_option maxHeartbeats 4000000 in
theorem l_X10_howManyImages_4 {G : Gx} {p : Program} {l : Launch} {e : Env} {s : State} {m : MethodId} {args : Array Value} {below : List Frame} {meth : Method} {c : Code} (C : Cx G p s m args meth c (some .int) 3 RX10 cX10_howManyImages)  {σ' : St} {r : Int32} : ∀ (n : Nat) (v1 : Int32) (v2 : Int32) (τ : St), L_X10_howManyImages_4  n v1 v2 τ = some (r, σ') → Rt G p l e (lvl 0) s m args below meth c 0 0 (MQ below (va_Qi (fun a b => a = r ∧ b = σ') (Wd G) (AG G)) args s 0 0 (AG G)) 3 4 [(0, vR (0, 0, 0)), (1, vI v1), (2, vI v2)] [] τ := by
  intro n
  induction n with
  | zero => intro v1 v2 τ hF; cases hF
  | succ n ih =>
    intro v1 v2 τ hF
    unfold L_X10_howManyImages_4 at hF
    refine r_iload_n C 2 2 dX10_howManyImages_4 rfl rfl ?_
    refine r_iconst (v := (2 : Int32)) C dX10_howManyImages_5 rfl ?_
    refine r_icmp_ge C 35 dX10_howManyImages_6 (by decide)  (fun h8 => ?_) (fun h8 => ?_)
    · have hF := if_t h8 hF
      refine r_iload_n C 1 1 dX10_howManyImages_35 rfl rfl ?_
      exact r_ireturn C dX10_howManyImages_36 (rt_e hF)
    · have hF := if_f h8 hF
      refine r_iload_n C 1 1 dX10_howManyImages_9 rfl rfl ?_
      refine r_aload_n C 0 0 dX10_howManyImages_10 rfl rfl ?_
      refine r_getR (kf := 6) (d2 := (11, 0, 0)) C dX10_howManyImages_11 rfl rfl f_X10 (by decide) t_2_101 rfl rfl ?_
      refine r_iload_n C 2 2 dX10_howManyImages_14 rfl rfl ?_
      obtain ⟨h1, hF⟩ := ck_e hF
      refine r_aaload (cA := 0) (d2 := (12, (v2.toNatClampNeg), 0)) C dX10_howManyImages_15 rfl rfl h1 rfl ?_
      refine r_getI (kf := 1) C dX10_howManyImages_16 rfl rfl f_X1 (by decide) t_2_72 rfl ?_
      obtain ⟨k3, ek3, hF⟩ := nam_e hF
      have hk3 : ∀ (y2 : Int32) (σ4 : St), k3 y2 σ4 = some (r, σ') → Rt G p l e (lvl 0) s m args below meth c 0 0 (MQ below (va_Qi (fun a b => a = r ∧ b = σ') (Wd G) (AG G)) args s 0 0 (AG G)) 3 27 [(0, vR (0, 0, 0)), (2, vI v2)] [vI y2, vI v1] σ4 := by
        intro y2 σ4 hF
        subst ek3
        refine r_iadd C dX10_howManyImages_27 ?_
        obtain ⟨x5, ex5, hF⟩ := nam_e hF
        refine r_topI ex5 ?_
        refine r_istore_n (ls2 := [(1, vI x5), (0, vR (0, 0, 0)), (2, vI v2)]) C dX10_howManyImages_28 1 rfl (by decide) rfl ?_
        obtain ⟨x6, ex6, hF⟩ := nam_e hF
        refine r_iinc (v := x6) (ls2 := [(2, vI x6), (1, vI x5), (0, vR (0, 0, 0))]) C 2 dX10_howManyImages_29 rfl ex6.symm (by decide) rfl ?_
        refine r_goto C 4 dX10_howManyImages_32 (by decide) ?_
        refine r_drop (ls2 := [(0, vR (0, 0, 0)), (1, vI x5), (2, vI x6)]) [2, 1, 0] rfl ?_
        exact ih _ _ _ hF
      refine r_if_eq C 26 dX10_howManyImages_19 (by decide)  (fun h7 => ?_) (fun h7 => ?_)
      · have hF := if_t h7 hF
        refine r_iconst (v := (0 : Int32)) C dX10_howManyImages_26 rfl ?_
        refine r_drop (ls2 := [(0, vR (0, 0, 0)), (2, vI v2)]) [0, 2] rfl ?_
        exact hk3 _ _ hF
      · have hF := if_f h7 hF
        refine r_iconst (v := (1 : Int32)) C dX10_howManyImages_22 rfl ?_
        refine r_goto C 27 dX10_howManyImages_23 (by decide) ?_
        refine r_drop (ls2 := [(0, vR (0, 0, 0)), (2, vI v2)]) [0, 2] rfl ?_
        exact hk3 _ _ hF
set_option maxRecDepth 20000 in
set_option maxHeartbeats 4000000 in
theorem s_X10_howManyImages (G : Gx) (l : Launch)  {σ σ' : St} {r : Int32} (hF : F_X10_howManyImages  σ = some (r, σ')) : Sp G l yX10_howManyImages cX10_howManyImages 3 (some .int) (lvl 0) [vR (0, 0, 0)] σ (va_Qi (fun a b => a = r ∧ b = σ') (Wd G) (AG G)) := by
  refine Sp_of (own := RX10) (by decide) rfl (Nat.le_of_ble_eq_true rfl) ?_
  intro p e s m args below meth c C
  show Rt G p l e (lvl 0) s m args below meth c 0 0 (MQ below (va_Qi (fun a b => a = r ∧ b = σ') (Wd G) (AG G)) args s 0 0 (AG G)) 3 0 [(0, vR (0, 0, 0))] [] σ
  unfold F_X10_howManyImages at hF
  refine r_iconst (v := (0 : Int32)) C dX10_howManyImages_0 rfl ?_
  refine r_istore_n (ls2 := [(1, vI (0 : Int32)), (0, vR (0, 0, 0))]) C dX10_howManyImages_1 1 rfl (by decide) rfl ?_
  refine r_iconst (v := (0 : Int32)) C dX10_howManyImages_2 rfl ?_
  refine r_istore_n (ls2 := [(2, vI (0 : Int32)), (1, vI (0 : Int32)), (0, vR (0, 0, 0))]) C dX10_howManyImages_3 2 rfl (by decide) rfl ?_
  refine r_drop (ls2 := [(0, vR (0, 0, 0)), (1, vI (0 : Int32)), (2, vI (0 : Int32))]) [2, 1, 0] rfl ?_
  refine l_X10_howManyImages_4 C   _ _ _ _ hF
def L_X6_howManyHoles_4 (q0 : Nat) : Nat → Int32 → Int32 → St → Option (Int32 × St)
  | 0, _, _, _ => none
  | n + 1, v1, v2, τ =>
  (if (96 : Int32) ≤ v2 then some (v1, τ) else ck (inb v2 96) (nam (fun (y2 : Int32) (σ4 : St) => nam (v1 + y2) fun x5 => nam (v2 + (1 : Int32)) fun x6 => L_X6_howManyHoles_4 q0 n x5 x6 σ4) fun k3 => (if (τ.1 (8, q0, 0) (v2.toNatClampNeg)) = (6 : Int32) then k3 (1 : Int32) τ else k3 (0 : Int32) τ)))
def F_X6_howManyHoles (q0 : Nat) (σ : St) : Option (Int32 × St) :=
  L_X6_howManyHoles_4 q0 FU (0 : Int32) (0 : Int32) σ 
set_option maxRecDepth 20000 in
set_option maxHeartbeats 4000000 in
theorem l_X6_howManyHoles_4 {G : Gx} {p : Program} {l : Launch} {e : Env} {s : State} {m : MethodId} {args : Array Value} {below : List Frame} {meth : Method} {c : Code} (C : Cx G p s m args meth c (some .int) 3 RX6 cX6_howManyHoles) (q0 : Nat) {σ' : St} {r : Int32} : ∀ (n : Nat) (v1 : Int32) (v2 : Int32) (τ : St), L_X6_howManyHoles_4 q0 n v1 v2 τ = some (r, σ') → Rt G p l e (lvl 0) s m args below meth c 0 0 (MQ below (va_Qi (fun a b => a = r ∧ b = σ') (Wd G) (AG G)) args s 0 0 (AG G)) 3 4 [(0, vR (7, q0, 0)), (1, vI v1), (2, vI v2)] [] τ := by
  intro n
  induction n with
  | zero => intro v1 v2 τ hF; cases hF
  | succ n ih =>
    intro v1 v2 τ hF
    unfold L_X6_howManyHoles_4 at hF
    refine r_iload_n C 2 2 dX6_howManyHoles_4 rfl rfl ?_
    refine r_bipush (v := (96 : Int32)) C dX6_howManyHoles_5 rfl ?_
    refine r_icmp_ge C 35 dX6_howManyHoles_7 (by decide)  (fun h8 => ?_) (fun h8 => ?_)
    · have hF := if_t h8 hF
      refine r_iload_n C 1 1 dX6_howManyHoles_35 rfl rfl ?_
      exact r_ireturn C dX6_howManyHoles_36 (rt_e hF)
    · have hF := if_f h8 hF
      refine r_iload_n C 1 1 dX6_howManyHoles_10 rfl rfl ?_
      refine r_aload_n C 0 0 dX6_howManyHoles_11 rfl rfl ?_
      refine r_getR (kf := 0) (d2 := (8, q0, 0)) C dX6_howManyHoles_12 rfl rfl f_X6 (by decide) t_1_152 rfl rfl ?_
      refine r_iload_n C 2 2 dX6_howManyHoles_15 rfl rfl ?_
      obtain ⟨h1, hF⟩ := ck_e hF
      refine r_iaload C (v2.toNatClampNeg) dX6_howManyHoles_16 rfl h1 rfl ?_
      refine r_bipush (v := (6 : Int32)) C dX6_howManyHoles_17 rfl ?_
      obtain ⟨k3, ek3, hF⟩ := nam_e hF
      have hk3 : ∀ (y2 : Int32) (σ4 : St), k3 y2 σ4 = some (r, σ') → Rt G p l e (lvl 0) s m args below meth c 0 0 (MQ below (va_Qi (fun a b => a = r ∧ b = σ') (Wd G) (AG G)) args s 0 0 (AG G)) 3 27 [(0, vR (7, q0, 0)), (2, vI v2)] [vI y2, vI v1] σ4 := by
        intro y2 σ4 hF
        subst ek3
        refine r_iadd C dX6_howManyHoles_27 ?_
        obtain ⟨x5, ex5, hF⟩ := nam_e hF
        refine r_topI ex5 ?_
        refine r_istore_n (ls2 := [(1, vI x5), (0, vR (7, q0, 0)), (2, vI v2)]) C dX6_howManyHoles_28 1 rfl (by decide) rfl ?_
        obtain ⟨x6, ex6, hF⟩ := nam_e hF
        refine r_iinc (v := x6) (ls2 := [(2, vI x6), (1, vI x5), (0, vR (7, q0, 0))]) C 2 dX6_howManyHoles_29 rfl ex6.symm (by decide) rfl ?_
        refine r_goto C 4 dX6_howManyHoles_32 (by decide) ?_
        refine r_drop (ls2 := [(0, vR (7, q0, 0)), (1, vI x5), (2, vI x6)]) [2, 1, 0] rfl ?_
        exact ih _ _ _ hF
      refine r_icmp_ne C 26 dX6_howManyHoles_19 (by decide)  (fun h7 => ?_) (fun h7 => ?_)
      · have hF := if_f h7 hF
        refine r_iconst (v := (0 : Int32)) C dX6_howManyHoles_26 rfl ?_
        refine r_drop (ls2 := [(0, vR (7, q0, 0)), (2, vI v2)]) [0, 2] rfl ?_
        exact hk3 _ _ hF
      · have hF := if_t h7 hF
        refine r_iconst (v := (1 : Int32)) C dX6_howManyHoles_22 rfl ?_
        refine r_goto C 27 dX6_howManyHoles_23 (by decide) ?_
        refine r_drop (ls2 := [(0, vR (7, q0, 0)), (2, vI v2)]) [0, 2] rfl ?_
        exact hk3 _ _ hF
set_option maxRecDepth 20000 in
set_option maxHeartbeats 4000000 in
theorem s_X6_howManyHoles (G : Gx) (l : Launch) {q0 : Nat} {σ σ' : St} {r : Int32} (hF : F_X6_howManyHoles q0 σ = some (r, σ')) : Sp G l yX6_howManyHoles cX6_howManyHoles 3 (some .int) (lvl 0) [vR (7, q0, 0)] σ (va_Qi (fun a b => a = r ∧ b = σ') (Wd G) (AG G)) := by
  refine Sp_of (own := RX6) (by decide) rfl (Nat.le_of_ble_eq_true rfl) ?_
  intro p e s m args below meth c C
  show Rt G p l e (lvl 0) s m args below meth c 0 0 (MQ below (va_Qi (fun a b => a = r ∧ b = σ') (Wd G) (AG G)) args s 0 0 (AG G)) 3 0 [(0, vR (7, q0, 0))] [] σ
  unfold F_X6_howManyHoles at hF
  refine r_iconst (v := (0 : Int32)) C dX6_howManyHoles_0 rfl ?_
  refine r_istore_n (ls2 := [(1, vI (0 : Int32)), (0, vR (7, q0, 0))]) C dX6_howManyHoles_1 1 rfl (by decide) rfl ?_
  refine r_iconst (v := (0 : Int32)) C dX6_howManyHoles_2 rfl ?_
  refine r_istore_n (ls2 := [(2, vI (0 : Int32)), (1, vI (0 : Int32)), (0, vR (7, q0, 0))]) C dX6_howManyHoles_3 2 rfl (by decide) rfl ?_
  refine r_drop (ls2 := [(0, vR (7, q0, 0)), (1, vI (0 : Int32)), (2, vI (0 : Int32))]) [2, 1, 0] rfl ?_
  refine l_X6_howManyHoles_4 C q0  _ _ _ _ hF
def F_X10_count (a1 : Int32) (σ : St) : Option (Int32 × St) :=
  (if a1 = (0 : Int32) then some (σ.1 (7, 0, 0) 2, σ) else (if a1 = (1 : Int32) then bd (F_X6_howManyThere 0 σ) fun r4 σ3 => some (r4, σ3) else (if a1 = (2 : Int32) then some (σ.1 (20, 0, 0) 4, σ) else (if a1 = (3 : Int32) then bd (F_X10_howManyImages  σ) fun r9 σ8 => some (r9, σ8) else (if a1 = (4 : Int32) then bd (F_X6_howManyHoles 0 σ) fun r13 σ12 => some (r13, σ12) else (if a1 = (5 : Int32) then some (σ.1 (0, 0, 0) 1, σ) else (if a1 = (6 : Int32) then ck (inb (0 : Int32) 4) ((if (σ.1 (26, 0, 0) 1) = (-1 : Int32) then some ((-4 : Int32), σ) else ck (inb (0 : Int32) 4) (some (σ.1 (26, 0, 0) 2, σ)))) else some ((-1 : Int32), σ))))))))
set_option maxRecDepth 20000 in
set_option maxHeartbeats 4000000 in
theorem s_X10_count (G : Gx) (l : Launch) {a1 : Int32} {σ σ' : St} {r : Int32} (hF : F_X10_count a1 σ = some (r, σ')) : Sp G l yX10_count cX10_count 2 (some .int) (lvl 1) [vR (0, 0, 0), vI a1] σ (va_Qi (fun a b => a = r ∧ b = σ') (Wd G) (AG G)) := by
  refine Sp_of (own := RX10) (by decide) rfl (Nat.le_of_ble_eq_true rfl) ?_
  intro p e s m args below meth c C
  show Rt G p l e (lvl 1) s m args below meth c 0 0 (MQ below (va_Qi (fun a b => a = r ∧ b = σ') (Wd G) (AG G)) args s 0 0 (AG G)) 2 0 [(0, vR (0, 0, 0)), (1, vI a1)] [] σ
  unfold F_X10_count at hF
  refine r_iload_n C 1 1 dX10_count_0 rfl rfl ?_
  by_cases h1 : a1 = (0 : Int32)
  · have hF := if_t h1 hF
    refine r_tabIn (off := 43) C 44 dX10_count_1 (by rw [h1]; decide) (by rw [h1]; decide) (by rw [h1]; rfl) (by decide) ?_
    refine r_aload_n C 0 0 dX10_count_44 rfl rfl ?_
    refine r_getR (kf := 5) (d2 := (7, 0, 0)) C dX10_count_45 rfl rfl f_X10 (by decide) t_2_100 rfl rfl ?_
    refine r_getI (kf := 2) C dX10_count_48 rfl rfl f_X6 (by decide) t_1_159 rfl ?_
    exact r_ireturn C dX10_count_51 (rt_e hF)
  have hF := if_f h1 hF
  by_cases h2 : a1 = (1 : Int32)
  · have hF := if_t h2 hF
    refine r_tabIn (off := 51) C 52 dX10_count_1 (by rw [h2]; decide) (by rw [h2]; decide) (by rw [h2]; rfl) (by decide) ?_
    refine r_aload_n C 0 0 dX10_count_52 rfl rfl ?_
    refine r_getR (kf := 5) (d2 := (7, 0, 0)) C dX10_count_53 rfl rfl f_X10 (by decide) t_2_100 rfl rfl ?_
    obtain ⟨r4, σ3, e5, hF⟩ := bd_e hF
    refine r_callV_i (as := []) (st := []) C dX10_count_56 (s_X6_howManyThere G l e5) rfl rfl rfl t_4_1 t_4_2 t_4_3 t_1_5 t_4_4 m_X6_howManyThere ⟨Nat.le_of_ble_eq_true rfl, Nat.le_of_ble_eq_true rfl⟩ ⟨rfl, rfl⟩ ⟨Nat.zero_le _, Nat.zero_le _⟩ rfl (Nat.le_of_ble_eq_true rfl) ?_
    exact r_ireturn C dX10_count_59 (rt_e hF)
  have hF := if_f h2 hF
  by_cases h6 : a1 = (2 : Int32)
  · have hF := if_t h6 hF
    refine r_tabIn (off := 59) C 60 dX10_count_1 (by rw [h6]; decide) (by rw [h6]; decide) (by rw [h6]; rfl) (by decide) ?_
    refine r_aload_n C 0 0 dX10_count_60 rfl rfl ?_
    refine r_getR (kf := 10) (d2 := (20, 0, 0)) C dX10_count_61 rfl rfl f_X10 (by decide) t_2_105 rfl rfl ?_
    refine r_getI (kf := 4) C dX10_count_64 rfl rfl f_X9 (by decide) t_2_48 rfl ?_
    exact r_ireturn C dX10_count_67 (rt_e hF)
  have hF := if_f h6 hF
  by_cases h7 : a1 = (3 : Int32)
  · have hF := if_t h7 hF
    refine r_tabIn (off := 67) C 68 dX10_count_1 (by rw [h7]; decide) (by rw [h7]; decide) (by rw [h7]; rfl) (by decide) ?_
    refine r_aload_n C 0 0 dX10_count_68 rfl rfl ?_
    obtain ⟨r9, σ8, e10, hF⟩ := bd_e hF
    refine r_callV_i (as := []) (st := []) C dX10_count_69 (s_X10_howManyImages G l e10) rfl rfl rfl t_5_36 t_5_38 t_s_20 t_1_1 t_5_39 m_X10_howManyImages ⟨Nat.le_of_ble_eq_true rfl, Nat.le_of_ble_eq_true rfl⟩ ⟨rfl, rfl⟩ ⟨Nat.zero_le _, Nat.zero_le _⟩ rfl (Nat.le_of_ble_eq_true rfl) ?_
    exact r_ireturn C dX10_count_72 (rt_e hF)
  have hF := if_f h7 hF
  by_cases h11 : a1 = (4 : Int32)
  · have hF := if_t h11 hF
    refine r_tabIn (off := 72) C 73 dX10_count_1 (by rw [h11]; decide) (by rw [h11]; decide) (by rw [h11]; rfl) (by decide) ?_
    refine r_aload_n C 0 0 dX10_count_73 rfl rfl ?_
    refine r_getR (kf := 5) (d2 := (7, 0, 0)) C dX10_count_74 rfl rfl f_X10 (by decide) t_2_100 rfl rfl ?_
    obtain ⟨r13, σ12, e14, hF⟩ := bd_e hF
    refine r_callV_i (as := []) (st := []) C dX10_count_77 (s_X6_howManyHoles G l e14) rfl rfl rfl t_5_40 t_5_41 t_5_42 t_1_5 t_5_43 m_X6_howManyHoles ⟨Nat.le_of_ble_eq_true rfl, Nat.le_of_ble_eq_true rfl⟩ ⟨rfl, rfl⟩ ⟨Nat.zero_le _, Nat.zero_le _⟩ rfl (Nat.le_of_ble_eq_true rfl) ?_
    exact r_ireturn C dX10_count_80 (rt_e hF)
  have hF := if_f h11 hF
  by_cases h15 : a1 = (5 : Int32)
  · have hF := if_t h15 hF
    refine r_tabIn (off := 80) C 81 dX10_count_1 (by rw [h15]; decide) (by rw [h15]; decide) (by rw [h15]; rfl) (by decide) ?_
    refine r_aload_n C 0 0 dX10_count_81 rfl rfl ?_
    refine r_getI (kf := 1) C dX10_count_82 rfl rfl f_X10 (by decide) t_2_96 rfl ?_
    exact r_ireturn C dX10_count_85 (rt_e hF)
  have hF := if_f h15 hF
  by_cases h16 : a1 = (6 : Int32)
  · have hF := if_t h16 hF
    refine r_tabIn (off := 85) C 86 dX10_count_1 (by rw [h16]; decide) (by rw [h16]; decide) (by rw [h16]; rfl) (by decide) ?_
    refine r_aload_n C 0 0 dX10_count_86 rfl rfl ?_
    refine r_getR (kf := 11) (d2 := (25, 0, 0)) C dX10_count_87 rfl rfl f_X10 (by decide) t_2_106 rfl rfl ?_
    refine r_iconst (v := (0 : Int32)) C dX10_count_90 rfl ?_
    obtain ⟨h17, hF⟩ := ck_e hF
    refine r_aaload (cA := 0) (d2 := (26, 0, 0)) C dX10_count_91 rfl rfl h17 rfl ?_
    refine r_getI (kf := 1) C dX10_count_92 rfl rfl f_X7 (by decide) t_2_85 rfl ?_
    refine r_iconst (v := (-1 : Int32)) C dX10_count_95 rfl ?_
    refine r_icmp_ne C 104 dX10_count_96 (by decide)  (fun h19 => ?_) (fun h19 => ?_)
    · have hF := if_f h19 hF
      refine r_aload_n C 0 0 dX10_count_104 rfl rfl ?_
      refine r_getR (kf := 11) (d2 := (25, 0, 0)) C dX10_count_105 rfl rfl f_X10 (by decide) t_2_106 rfl rfl ?_
      refine r_iconst (v := (0 : Int32)) C dX10_count_108 rfl ?_
      obtain ⟨h18, hF⟩ := ck_e hF
      refine r_aaload (cA := 0) (d2 := (26, 0, 0)) C dX10_count_109 rfl rfl h18 rfl ?_
      refine r_getI (kf := 2) C dX10_count_110 rfl rfl f_X7 (by decide) t_2_87 rfl ?_
      exact r_ireturn C dX10_count_113 (rt_e hF)
    · have hF := if_t h19 hF
      refine r_bipush (v := (-4 : Int32)) C dX10_count_99 rfl ?_
      refine r_goto C 113 dX10_count_101 (by decide) ?_
      exact r_ireturn C dX10_count_113 (rt_e hF)
  have hF := if_f h16 hF
  refine r_tabOut C 114 dX10_count_1 (by have u0 := lv_neT h1 (a := 0) rfl; have u1 := lv_neT h2 (a := 1) rfl; have u2 := lv_neT h6 (a := 2) rfl; have u3 := lv_neT h7 (a := 3) rfl; have u4 := lv_neT h11 (a := 4) rfl; have u5 := lv_neT h15 (a := 5) rfl; have u6 := lv_neT h16 (a := 6) rfl; omega) (by decide) ?_
  refine r_iconst (v := (-1 : Int32)) C dX10_count_114 rfl ?_
  exact r_ireturn C dX10_count_115 (rt_e hF)
def F_X11_in (a0 : Int64) (a1 : Int64) (a2 : Int64) (σ : St) : Option (Int32 × St) :=
  (if (lg_cmp a0 a1) < 0 then some ((0 : Int32), σ) else (if 0 < (lg_cmp a0 a2) then some ((0 : Int32), σ) else some ((1 : Int32), σ)))
set_option maxRecDepth 20000 in
set_option maxHeartbeats 4000000 in
theorem s_X11_in (G : Gx) (l : Launch) {a0 : Int64} {a1 : Int64} {a2 : Int64} {σ σ' : St} {r : Int32} (hF : F_X11_in a0 a1 a2 σ = some (r, σ')) : Sp G l yX11_in cX11_in 6 (some .boolean) (lvl 0) [vL a0, vL a1, vL a2] σ (va_Qi (fun a b => a = r ∧ b = σ') (Wd G) (AG G)) := by
  refine Sp_of (own := RX11) (by decide) rfl (Nat.le_of_ble_eq_true rfl) ?_
  intro p e s m args below meth c C
  show Rt G p l e (lvl 0) s m args below meth c 0 0 (MQ below (va_Qi (fun a b => a = r ∧ b = σ') (Wd G) (AG G)) args s 0 0 (AG G)) 6 0 [(0, vL a0), (2, vL a1), (4, vL a2)] [] σ
  unfold F_X11_in at hF
  refine r_lload_n C 0 0 dX11_in_0 rfl rfl ?_
  refine r_lload_n C 1 2 dX11_in_1 rfl rfl ?_
  refine r_lcmp C dX11_in_2 ?_
  refine r_if_lt C 17 dX11_in_3 (by decide)  (fun h2 => ?_) (fun h2 => ?_)
  · have hF := if_t h2 hF
    refine r_iconst (v := (0 : Int32)) C dX11_in_17 rfl ?_
    exact r_zreturn C dX11_in_18 (nar_z (Or.inl rfl)) (rt_e hF)
  · have hF := if_f h2 hF
    refine r_lload_n C 0 0 dX11_in_6 rfl rfl ?_
    refine r_lload C 2 dX11_in_7 rfl ?_
    refine r_lcmp C dX11_in_9 ?_
    refine r_if_gt C 17 dX11_in_10 (by decide)  (fun h1 => ?_) (fun h1 => ?_)
    · have hF := if_t h1 hF
      refine r_iconst (v := (0 : Int32)) C dX11_in_17 rfl ?_
      exact r_zreturn C dX11_in_18 (nar_z (Or.inl rfl)) (rt_e hF)
    · have hF := if_f h1 hF
      refine r_iconst (v := (1 : Int32)) C dX11_in_13 rfl ?_
      refine r_goto C 18 dX11_in_14 (by decide) ?_
      exact r_zreturn C dX11_in_18 (nar_z (Or.inr rfl)) (rt_e hF)
def F_X11_flag (a0 : Int32) (σ : St) : Option (Int32 × St) :=
  (if a0 = 0 then some ((0 : Int32), σ) else some ((1 : Int32), σ))
set_option maxRecDepth 20000 in
set_option maxHeartbeats 4000000 in
theorem s_X11_flag (G : Gx) (l : Launch) {a0 : Int32} {σ σ' : St} {r : Int32} (hF : F_X11_flag a0 σ = some (r, σ')) : Sp G l yX11_flag cX11_flag 1 (some .int) (lvl 0) [vI a0] σ (va_Qi (fun a b => a = r ∧ b = σ') (Wd G) (AG G)) := by
  refine Sp_of (own := RX11) (by decide) rfl (Nat.le_of_ble_eq_true rfl) ?_
  intro p e s m args below meth c C
  show Rt G p l e (lvl 0) s m args below meth c 0 0 (MQ below (va_Qi (fun a b => a = r ∧ b = σ') (Wd G) (AG G)) args s 0 0 (AG G)) 1 0 [(0, vI a0)] [] σ
  unfold F_X11_flag at hF
  refine r_iload_n C 0 0 dX11_flag_0 rfl rfl ?_
  refine r_if_eq C 8 dX11_flag_1 (by decide)  (fun h1 => ?_) (fun h1 => ?_)
  · have hF := if_t h1 hF
    refine r_iconst (v := (0 : Int32)) C dX11_flag_8 rfl ?_
    exact r_ireturn C dX11_flag_9 (rt_e hF)
  · have hF := if_f h1 hF
    refine r_iconst (v := (1 : Int32)) C dX11_flag_4 rfl ?_
    refine r_goto C 9 dX11_flag_5 (by decide) ?_
    exact r_ireturn C dX11_flag_9 (rt_e hF)
def F_X11_less (a0 : Int32) (a1 : Int32) (σ : St) : Option (Int32 × St) :=
  (if a1 ≤ a0 then some (a1, σ) else some (a0, σ))
set_option maxRecDepth 20000 in
set_option maxHeartbeats 4000000 in
theorem s_X11_less (G : Gx) (l : Launch) {a0 : Int32} {a1 : Int32} {σ σ' : St} {r : Int32} (hF : F_X11_less a0 a1 σ = some (r, σ')) : Sp G l yX11_less cX11_less 2 (some .int) (lvl 0) [vI a0, vI a1] σ (va_Qi (fun a b => a = r ∧ b = σ') (Wd G) (AG G)) := by
  refine Sp_of (own := RX11) (by decide) rfl (Nat.le_of_ble_eq_true rfl) ?_
  intro p e s m args below meth c C
  show Rt G p l e (lvl 0) s m args below meth c 0 0 (MQ below (va_Qi (fun a b => a = r ∧ b = σ') (Wd G) (AG G)) args s 0 0 (AG G)) 2 0 [(0, vI a0), (1, vI a1)] [] σ
  unfold F_X11_less at hF
  refine r_iload_n C 0 0 dX11_less_0 rfl rfl ?_
  refine r_iload_n C 1 1 dX11_less_1 rfl rfl ?_
  refine r_icmp_ge C 9 dX11_less_2 (by decide)  (fun h1 => ?_) (fun h1 => ?_)
  · have hF := if_t h1 hF
    refine r_iload_n C 1 1 dX11_less_9 rfl rfl ?_
    exact r_ireturn C dX11_less_10 (rt_e hF)
  · have hF := if_f h1 hF
    refine r_iload_n C 0 0 dX11_less_5 rfl rfl ?_
    refine r_goto C 10 dX11_less_6 (by decide) ?_
    exact r_ireturn C dX11_less_10 (rt_e hF)
def L_X11_firstDraft_7  : Nat → Int32 → St → (St → Option (Unit × St)) → Option (Unit × St)
  | 0, _, _, _ => none
  | n + 1, v1, τ, kx26 =>
  (if (96 : Int32) ≤ v1 then kx26  τ else ck (inb v1 96) (nam (uI τ (46, 0, 0) (v1.toNatClampNeg) (4 : Int32)) fun σ3 => nam (v1 + (1 : Int32)) fun x4 => L_X11_firstDraft_7 n x4 σ3 kx26))
def L_X11_firstDraft_28  : Nat → Int32 → St → (St → Option (Unit × St)) → Option (Unit × St)
  | 0, _, _, _ => none
  | n + 1, v1, τ, kx47 =>
  (if (9 : Int32) ≤ v1 then kx47  τ else ck (inb v1 9) (nam (uI τ (45, 0, 0) (v1.toNatClampNeg) (vp_nar .boolean (0 : Int32))) fun σ8 => nam (v1 + (1 : Int32)) fun x9 => L_X11_firstDraft_28 n x9 σ8 kx47))
def F_X11_firstDraft  (σ : St) : Option (Unit × St) :=
  nam (uI σ (40, 0, 0) 5 (0 : Int32)) fun σ1 => L_X11_firstDraft_7  FU (0 : Int32) σ1 (fun  (σ6 : St) => L_X11_firstDraft_28  FU (0 : Int32) σ6 (fun  (σ11 : St) => ck (inb (0 : Int32) 9) (nam (uI σ11 (44, 0, 0) 0 (60 : Int32)) fun σ13 => ck (inb (1 : Int32) 9) (nam (uI σ13 (44, 0, 0) 1 (40 : Int32)) fun σ15 => ck (inb (2 : Int32) 9) (nam (uI σ15 (44, 0, 0) 2 (1 : Int32)) fun σ17 => ck (inb (3 : Int32) 9) (nam (uI σ17 (44, 0, 0) 3 (60 : Int32)) fun σ19 => ck (inb (4 : Int32) 9) (nam (uI σ19 (44, 0, 0) 4 (0 : Int32)) fun σ21 => ck (inb (5 : Int32) 9) (nam (uI σ21 (44, 0, 0) 5 (40 : Int32)) fun σ23 => ck (inb (6 : Int32) 9) (nam (uI σ23 (44, 0, 0) 6 (10 : Int32)) fun σ25 => ck (inb (7 : Int32) 9) (nam (uI σ25 (44, 0, 0) 7 (3 : Int32)) fun σ27 => ck (inb (8 : Int32) 9) (nam (uI σ27 (44, 0, 0) 8 (0 : Int32)) fun σ29 => some ((), σ29))))))))))))
set_option maxRecDepth 20000 in
set_option maxHeartbeats 4000000 in
theorem l_X11_firstDraft_7 {G : Gx} {p : Program} {l : Launch} {e : Env} {s : State} {m : MethodId} {args : Array Value} {below : List Frame} {meth : Method} {c : Code} (C : Cx G p s m args meth c none 2 RX11 cX11_firstDraft)  {σ' : St}  (kx26 : St → Option (Unit × St)) (hkx26 : ∀  (τ : St), kx26  τ = some ((), σ') → Rt G p l e (lvl 0) s m args below meth c 0 0 (MQ below (va_Qv (fun b => b = σ') (Wd G) (AG G)) args s 0 0 (AG G)) 2 26 [(0, vR (40, 0, 0))] [] τ) : ∀ (n : Nat) (v1 : Int32) (τ : St), L_X11_firstDraft_7  n v1 τ kx26 = some ((), σ') → Rt G p l e (lvl 0) s m args below meth c 0 0 (MQ below (va_Qv (fun b => b = σ') (Wd G) (AG G)) args s 0 0 (AG G)) 2 7 [(0, vR (40, 0, 0)), (1, vI v1)] [] τ := by
  intro n
  induction n with
  | zero => intro v1 τ hF; cases hF
  | succ n ih =>
    intro v1 τ hF
    unfold L_X11_firstDraft_7 at hF
    refine r_iload_n C 1 1 dX11_firstDraft_7 rfl rfl ?_
    refine r_bipush (v := (96 : Int32)) C dX11_firstDraft_8 rfl ?_
    refine r_icmp_ge C 26 dX11_firstDraft_10 (by decide)  (fun h5 => ?_) (fun h5 => ?_)
    · have hF := if_t h5 hF
      refine r_drop (ls2 := [(0, vR (40, 0, 0))]) [0] rfl ?_
      exact hkx26 _ hF
    · have hF := if_f h5 hF
      refine r_aload_n C 0 0 dX11_firstDraft_13 rfl rfl ?_
      refine r_getR (kf := 6) (d2 := (46, 0, 0)) C dX11_firstDraft_14 rfl rfl f_X11 (by decide) t_5_64 rfl rfl ?_
      refine r_iload_n C 1 1 dX11_firstDraft_17 rfl rfl ?_
      refine r_iconst (v := (4 : Int32)) C dX11_firstDraft_18 rfl ?_
      obtain ⟨h2, hF⟩ := ck_e hF
      obtain ⟨σ3, eσ3, hF⟩ := nam_e hF
      refine r_iastore C (v1.toNatClampNeg) dX11_firstDraft_19 rfl h2 rfl eσ3 ?_
      obtain ⟨x4, ex4, hF⟩ := nam_e hF
      refine r_iinc (v := x4) (ls2 := [(1, vI x4), (0, vR (40, 0, 0))]) C 1 dX11_firstDraft_20 rfl ex4.symm (by decide) rfl ?_
      refine r_goto C 7 dX11_firstDraft_23 (by decide) ?_
      refine r_drop (ls2 := [(0, vR (40, 0, 0)), (1, vI x4)]) [1, 0] rfl ?_
      exact ih _ _ hF
set_option maxRecDepth 20000 in
set_option maxHeartbeats 4000000 in
theorem l_X11_firstDraft_28 {G : Gx} {p : Program} {l : Launch} {e : Env} {s : State} {m : MethodId} {args : Array Value} {below : List Frame} {meth : Method} {c : Code} (C : Cx G p s m args meth c none 2 RX11 cX11_firstDraft)  {σ' : St}  (kx47 : St → Option (Unit × St)) (hkx47 : ∀  (τ : St), kx47  τ = some ((), σ') → Rt G p l e (lvl 0) s m args below meth c 0 0 (MQ below (va_Qv (fun b => b = σ') (Wd G) (AG G)) args s 0 0 (AG G)) 2 47 [(0, vR (40, 0, 0))] [] τ) : ∀ (n : Nat) (v1 : Int32) (τ : St), L_X11_firstDraft_28  n v1 τ kx47 = some ((), σ') → Rt G p l e (lvl 0) s m args below meth c 0 0 (MQ below (va_Qv (fun b => b = σ') (Wd G) (AG G)) args s 0 0 (AG G)) 2 28 [(0, vR (40, 0, 0)), (1, vI v1)] [] τ := by
  intro n
  induction n with
  | zero => intro v1 τ hF; cases hF
  | succ n ih =>
    intro v1 τ hF
    unfold L_X11_firstDraft_28 at hF
    refine r_iload_n C 1 1 dX11_firstDraft_28 rfl rfl ?_
    refine r_bipush (v := (9 : Int32)) C dX11_firstDraft_29 rfl ?_
    refine r_icmp_ge C 47 dX11_firstDraft_31 (by decide)  (fun h10 => ?_) (fun h10 => ?_)
    · have hF := if_t h10 hF
      refine r_drop (ls2 := [(0, vR (40, 0, 0))]) [0] rfl ?_
      exact hkx47 _ hF
    · have hF := if_f h10 hF
      refine r_aload_n C 0 0 dX11_firstDraft_34 rfl rfl ?_
      refine r_getR (kf := 4) (d2 := (45, 0, 0)) C dX11_firstDraft_35 rfl rfl f_X11 (by decide) t_5_62 rfl rfl ?_
      refine r_iload_n C 1 1 dX11_firstDraft_38 rfl rfl ?_
      refine r_iconst (v := (0 : Int32)) C dX11_firstDraft_39 rfl ?_
      obtain ⟨h7, hF⟩ := ck_e hF
      obtain ⟨σ8, eσ8, hF⟩ := nam_e hF
      refine r_zastore C (v1.toNatClampNeg) dX11_firstDraft_40 rfl h7 rfl eσ8 ?_
      obtain ⟨x9, ex9, hF⟩ := nam_e hF
      refine r_iinc (v := x9) (ls2 := [(1, vI x9), (0, vR (40, 0, 0))]) C 1 dX11_firstDraft_41 rfl ex9.symm (by decide) rfl ?_
      refine r_goto C 28 dX11_firstDraft_44 (by decide) ?_
      refine r_drop (ls2 := [(0, vR (40, 0, 0)), (1, vI x9)]) [1, 0] rfl ?_
      exact ih _ _ hF
set_option maxRecDepth 20000 in
set_option maxHeartbeats 4000000 in
theorem s_X11_firstDraft (G : Gx) (l : Launch)  {σ σ' : St}  (hF : F_X11_firstDraft  σ = some ((), σ')) : Sp G l yX11_firstDraft cX11_firstDraft 2 none (lvl 0) [vR (40, 0, 0)] σ (va_Qv (fun b => b = σ') (Wd G) (AG G)) := by
  refine Sp_of (own := RX11) (by decide) rfl (Nat.le_of_ble_eq_true rfl) ?_
  intro p e s m args below meth c C
  show Rt G p l e (lvl 0) s m args below meth c 0 0 (MQ below (va_Qv (fun b => b = σ') (Wd G) (AG G)) args s 0 0 (AG G)) 2 0 [(0, vR (40, 0, 0))] [] σ
  unfold F_X11_firstDraft at hF
  refine r_aload_n C 0 0 dX11_firstDraft_0 rfl rfl ?_
  refine r_iconst (v := (0 : Int32)) C dX11_firstDraft_1 rfl ?_
  obtain ⟨σ1, eσ1, hF⟩ := nam_e hF
  refine r_put (kf := 5) (ty0 := tyX11) C dX11_firstDraft_2 rfl rfl f_X11 tyX11_ok nmX11 (by decide) t_5_63 rfl rfl rfl rfl eσ1 ?_
  refine r_iconst (v := (0 : Int32)) C dX11_firstDraft_5 rfl ?_
  refine r_istore_n (ls2 := [(1, vI (0 : Int32)), (0, vR (40, 0, 0))]) C dX11_firstDraft_6 1 rfl (by decide) rfl ?_
  refine r_drop (ls2 := [(0, vR (40, 0, 0)), (1, vI (0 : Int32))]) [1, 0] rfl ?_
  refine l_X11_firstDraft_7 C  _ ?_ _ _ _ hF
  · intro  σ6 hF
    refine r_iconst (v := (0 : Int32)) C dX11_firstDraft_26 rfl ?_
    refine r_istore_n (ls2 := [(1, vI (0 : Int32)), (0, vR (40, 0, 0))]) C dX11_firstDraft_27 1 rfl (by decide) rfl ?_
    refine r_drop (ls2 := [(0, vR (40, 0, 0)), (1, vI (0 : Int32))]) [1, 0] rfl ?_
    refine l_X11_firstDraft_28 C  _ ?_ _ _ _ hF
    · intro  σ11 hF
      refine r_aload_n C 0 0 dX11_firstDraft_47 rfl rfl ?_
      refine r_getR (kf := 3) (d2 := (44, 0, 0)) C dX11_firstDraft_48 rfl rfl f_X11 (by decide) t_5_61 rfl rfl ?_
      refine r_iconst (v := (0 : Int32)) C dX11_firstDraft_51 rfl ?_
      refine r_bipush (v := (60 : Int32)) C dX11_firstDraft_52 rfl ?_
      obtain ⟨h12, hF⟩ := ck_e hF
      obtain ⟨σ13, eσ13, hF⟩ := nam_e hF
      refine r_iastore C 0 dX11_firstDraft_54 rfl h12 rfl eσ13 ?_
      refine r_aload_n C 0 0 dX11_firstDraft_55 rfl rfl ?_
      refine r_getR (kf := 3) (d2 := (44, 0, 0)) C dX11_firstDraft_56 rfl rfl f_X11 (by decide) t_5_61 rfl rfl ?_
      refine r_iconst (v := (1 : Int32)) C dX11_firstDraft_59 rfl ?_
      refine r_bipush (v := (40 : Int32)) C dX11_firstDraft_60 rfl ?_
      obtain ⟨h14, hF⟩ := ck_e hF
      obtain ⟨σ15, eσ15, hF⟩ := nam_e hF
      refine r_iastore C 1 dX11_firstDraft_62 rfl h14 rfl eσ15 ?_
      refine r_aload_n C 0 0 dX11_firstDraft_63 rfl rfl ?_
      refine r_getR (kf := 3) (d2 := (44, 0, 0)) C dX11_firstDraft_64 rfl rfl f_X11 (by decide) t_5_61 rfl rfl ?_
      refine r_iconst (v := (2 : Int32)) C dX11_firstDraft_67 rfl ?_
      refine r_iconst (v := (1 : Int32)) C dX11_firstDraft_68 rfl ?_
      obtain ⟨h16, hF⟩ := ck_e hF
      obtain ⟨σ17, eσ17, hF⟩ := nam_e hF
      refine r_iastore C 2 dX11_firstDraft_69 rfl h16 rfl eσ17 ?_
      refine r_aload_n C 0 0 dX11_firstDraft_70 rfl rfl ?_
      refine r_getR (kf := 3) (d2 := (44, 0, 0)) C dX11_firstDraft_71 rfl rfl f_X11 (by decide) t_5_61 rfl rfl ?_
      refine r_iconst (v := (3 : Int32)) C dX11_firstDraft_74 rfl ?_
      refine r_bipush (v := (60 : Int32)) C dX11_firstDraft_75 rfl ?_
      obtain ⟨h18, hF⟩ := ck_e hF
      obtain ⟨σ19, eσ19, hF⟩ := nam_e hF
      refine r_iastore C 3 dX11_firstDraft_77 rfl h18 rfl eσ19 ?_
      refine r_aload_n C 0 0 dX11_firstDraft_78 rfl rfl ?_
      refine r_getR (kf := 3) (d2 := (44, 0, 0)) C dX11_firstDraft_79 rfl rfl f_X11 (by decide) t_5_61 rfl rfl ?_
      refine r_iconst (v := (4 : Int32)) C dX11_firstDraft_82 rfl ?_
      refine r_iconst (v := (0 : Int32)) C dX11_firstDraft_83 rfl ?_
      obtain ⟨h20, hF⟩ := ck_e hF
      obtain ⟨σ21, eσ21, hF⟩ := nam_e hF
      refine r_iastore C 4 dX11_firstDraft_84 rfl h20 rfl eσ21 ?_
      refine r_aload_n C 0 0 dX11_firstDraft_85 rfl rfl ?_
      refine r_getR (kf := 3) (d2 := (44, 0, 0)) C dX11_firstDraft_86 rfl rfl f_X11 (by decide) t_5_61 rfl rfl ?_
      refine r_iconst (v := (5 : Int32)) C dX11_firstDraft_89 rfl ?_
      refine r_bipush (v := (40 : Int32)) C dX11_firstDraft_90 rfl ?_
      obtain ⟨h22, hF⟩ := ck_e hF
      obtain ⟨σ23, eσ23, hF⟩ := nam_e hF
      refine r_iastore C 5 dX11_firstDraft_92 rfl h22 rfl eσ23 ?_
      refine r_aload_n C 0 0 dX11_firstDraft_93 rfl rfl ?_
      refine r_getR (kf := 3) (d2 := (44, 0, 0)) C dX11_firstDraft_94 rfl rfl f_X11 (by decide) t_5_61 rfl rfl ?_
      refine r_bipush (v := (6 : Int32)) C dX11_firstDraft_97 rfl ?_
      refine r_bipush (v := (10 : Int32)) C dX11_firstDraft_99 rfl ?_
      obtain ⟨h24, hF⟩ := ck_e hF
      obtain ⟨σ25, eσ25, hF⟩ := nam_e hF
      refine r_iastore C 6 dX11_firstDraft_101 rfl h24 rfl eσ25 ?_
      refine r_aload_n C 0 0 dX11_firstDraft_102 rfl rfl ?_
      refine r_getR (kf := 3) (d2 := (44, 0, 0)) C dX11_firstDraft_103 rfl rfl f_X11 (by decide) t_5_61 rfl rfl ?_
      refine r_bipush (v := (7 : Int32)) C dX11_firstDraft_106 rfl ?_
      refine r_iconst (v := (3 : Int32)) C dX11_firstDraft_108 rfl ?_
      obtain ⟨h26, hF⟩ := ck_e hF
      obtain ⟨σ27, eσ27, hF⟩ := nam_e hF
      refine r_iastore C 7 dX11_firstDraft_109 rfl h26 rfl eσ27 ?_
      refine r_aload_n C 0 0 dX11_firstDraft_110 rfl rfl ?_
      refine r_getR (kf := 3) (d2 := (44, 0, 0)) C dX11_firstDraft_111 rfl rfl f_X11 (by decide) t_5_61 rfl rfl ?_
      refine r_bipush (v := (8 : Int32)) C dX11_firstDraft_114 rfl ?_
      refine r_iconst (v := (0 : Int32)) C dX11_firstDraft_116 rfl ?_
      obtain ⟨h28, hF⟩ := ck_e hF
      obtain ⟨σ29, eσ29, hF⟩ := nam_e hF
      refine r_iastore C 8 dX11_firstDraft_117 rfl h28 rfl eσ29 ?_
      exact r_return C dX11_firstDraft_118 (rv_e hF)
def L_X11_keepDraft_11 (c1 : Int32) : Nat → Int32 → St → (St → Option (Unit × St)) → Option (Unit × St)
  | 0, _, _, _ => none
  | n + 1, v2, τ, kx46 =>
  (if (192 : Int32) ≤ v2 then kx46  τ else nam (fun (y3 : Int32) (σ5 : St) => ck (inb v2 576) (nam (uI σ5 (41, 0, 0) (v2.toNatClampNeg) y3) fun σ7 => nam (v2 + (1 : Int32)) fun x8 => L_X11_keepDraft_11 c1 n x8 σ7 kx46)) fun k4 => (if (96 : Int32) ≤ v2 then k4 (0 : Int32) τ else ck (inb v2 96) (k4 (τ.1 (46, 0, 0) (v2.toNatClampNeg)) τ)))
def L_X11_keepDraft_57  : Nat → Int32 → St → (St → Option (Unit × St)) → Option (Unit × St)
  | 0, _, _, _ => none
  | n + 1, v2, τ, kx81 =>
  (if (9 : Int32) ≤ v2 then kx81  τ else ck (inb v2 9) (ck (inb v2 9) (nam (uI τ (43, 0, 0) (v2.toNatClampNeg) (τ.1 (44, 0, 0) (v2.toNatClampNeg))) fun σ17 => nam (v2 + (1 : Int32)) fun x18 => L_X11_keepDraft_57 n x18 σ17 kx81)))
def F_X11_keepDraft  (σ : St) : Option (Unit × St) :=
  ck (inb (175 : Int32) 576) (nam (σ.1 (41, 0, 0) 175) fun x2 => L_X11_keepDraft_11 x2 FU (0 : Int32) σ (fun  (σ12 : St) => ck (inb (175 : Int32) 576) (nam (uI σ12 (41, 0, 0) 175 x2) fun σ14 => L_X11_keepDraft_57  FU (0 : Int32) σ14 (fun  (σ20 : St) => nam (uI σ20 (40, 0, 0) 23 (0 : Int32)) fun σ21 => ck (inb (0 : Int32) 2) (nam (uI σ21 (42, 0, 0) 0 (vp_nar .boolean (0 : Int32))) fun σ23 => ck (inb (1 : Int32) 2) (nam (uI σ23 (42, 0, 0) 1 (vp_nar .boolean (0 : Int32))) fun σ25 => some ((), σ25)))))))
set_option maxRecDepth 20000 in
set_option maxHeartbeats 4000000 in
theorem l_X11_keepDraft_11 {G : Gx} {p : Program} {l : Launch} {e : Env} {s : State} {m : MethodId} {args : Array Value} {below : List Frame} {meth : Method} {c : Code} (C : Cx G p s m args meth c none 3 RX11 cX11_keepDraft) (c1 : Int32) {σ' : St}  (kx46 : St → Option (Unit × St)) (hkx46 : ∀  (τ : St), kx46  τ = some ((), σ') → Rt G p l e (lvl 0) s m args below meth c 0 0 (MQ below (va_Qv (fun b => b = σ') (Wd G) (AG G)) args s 0 0 (AG G)) 3 46 [(0, vR (40, 0, 0)), (1, vI c1)] [] τ) : ∀ (n : Nat) (v2 : Int32) (τ : St), L_X11_keepDraft_11 c1 n v2 τ kx46 = some ((), σ') → Rt G p l e (lvl 0) s m args below meth c 0 0 (MQ below (va_Qv (fun b => b = σ') (Wd G) (AG G)) args s 0 0 (AG G)) 3 11 [(0, vR (40, 0, 0)), (1, vI c1), (2, vI v2)] [] τ := by
  intro n
  induction n with
  | zero => intro v2 τ hF; cases hF
  | succ n ih =>
    intro v2 τ hF
    unfold L_X11_keepDraft_11 at hF
    refine r_iload_n C 2 2 dX11_keepDraft_11 rfl rfl ?_
    refine r_sipush (v := (192 : Int32)) C dX11_keepDraft_12 rfl ?_
    refine r_icmp_ge C 46 dX11_keepDraft_15 (by decide)  (fun h11 => ?_) (fun h11 => ?_)
    · have hF := if_t h11 hF
      refine r_drop (ls2 := [(0, vR (40, 0, 0)), (1, vI c1)]) [0, 1] rfl ?_
      exact hkx46 _ hF
    · have hF := if_f h11 hF
      refine r_aload_n C 0 0 dX11_keepDraft_18 rfl rfl ?_
      refine r_getR (kf := 0) (d2 := (41, 0, 0)) C dX11_keepDraft_19 rfl rfl f_X11 (by decide) t_5_58 rfl rfl ?_
      refine r_iload_n C 2 2 dX11_keepDraft_22 rfl rfl ?_
      refine r_iload_n C 2 2 dX11_keepDraft_23 rfl rfl ?_
      refine r_bipush (v := (96 : Int32)) C dX11_keepDraft_24 rfl ?_
      obtain ⟨k4, ek4, hF⟩ := nam_e hF
      have hk4 : ∀ (y3 : Int32) (σ5 : St), k4 y3 σ5 = some ((), σ') → Rt G p l e (lvl 0) s m args below meth c 0 0 (MQ below (va_Qv (fun b => b = σ') (Wd G) (AG G)) args s 0 0 (AG G)) 3 39 [(0, vR (40, 0, 0)), (1, vI c1), (2, vI v2)] [vI y3, vI v2, vR (41, 0, 0)] σ5 := by
        intro y3 σ5 hF
        subst ek4
        obtain ⟨h6, hF⟩ := ck_e hF
        obtain ⟨σ7, eσ7, hF⟩ := nam_e hF
        refine r_iastore C (v2.toNatClampNeg) dX11_keepDraft_39 rfl h6 rfl eσ7 ?_
        obtain ⟨x8, ex8, hF⟩ := nam_e hF
        refine r_iinc (v := x8) (ls2 := [(2, vI x8), (0, vR (40, 0, 0)), (1, vI c1)]) C 2 dX11_keepDraft_40 rfl ex8.symm (by decide) rfl ?_
        refine r_goto C 11 dX11_keepDraft_43 (by decide) ?_
        refine r_drop (ls2 := [(0, vR (40, 0, 0)), (1, vI c1), (2, vI x8)]) [1, 2, 0] rfl ?_
        exact ih _ _ hF
      refine r_icmp_ge C 38 dX11_keepDraft_26 (by decide)  (fun h10 => ?_) (fun h10 => ?_)
      · have hF := if_t h10 hF
        refine r_iconst (v := (0 : Int32)) C dX11_keepDraft_38 rfl ?_
        exact hk4 _ _ hF
      · have hF := if_f h10 hF
        refine r_aload_n C 0 0 dX11_keepDraft_29 rfl rfl ?_
        refine r_getR (kf := 6) (d2 := (46, 0, 0)) C dX11_keepDraft_30 rfl rfl f_X11 (by decide) t_5_64 rfl rfl ?_
        refine r_iload_n C 2 2 dX11_keepDraft_33 rfl rfl ?_
        obtain ⟨h9, hF⟩ := ck_e hF
        refine r_iaload C (v2.toNatClampNeg) dX11_keepDraft_34 rfl h9 rfl ?_
        refine r_goto C 39 dX11_keepDraft_35 (by decide) ?_
        exact hk4 _ _ hF
set_option maxRecDepth 20000 in
set_option maxHeartbeats 4000000 in
theorem l_X11_keepDraft_57 {G : Gx} {p : Program} {l : Launch} {e : Env} {s : State} {m : MethodId} {args : Array Value} {below : List Frame} {meth : Method} {c : Code} (C : Cx G p s m args meth c none 3 RX11 cX11_keepDraft)  {σ' : St}  (kx81 : St → Option (Unit × St)) (hkx81 : ∀  (τ : St), kx81  τ = some ((), σ') → Rt G p l e (lvl 0) s m args below meth c 0 0 (MQ below (va_Qv (fun b => b = σ') (Wd G) (AG G)) args s 0 0 (AG G)) 3 81 [(0, vR (40, 0, 0))] [] τ) : ∀ (n : Nat) (v2 : Int32) (τ : St), L_X11_keepDraft_57  n v2 τ kx81 = some ((), σ') → Rt G p l e (lvl 0) s m args below meth c 0 0 (MQ below (va_Qv (fun b => b = σ') (Wd G) (AG G)) args s 0 0 (AG G)) 3 57 [(0, vR (40, 0, 0)), (2, vI v2)] [] τ := by
  intro n
  induction n with
  | zero => intro v2 τ hF; cases hF
  | succ n ih =>
    intro v2 τ hF
    unfold L_X11_keepDraft_57 at hF
    refine r_iload_n C 1 2 dX11_keepDraft_57 rfl rfl ?_
    refine r_bipush (v := (9 : Int32)) C dX11_keepDraft_58 rfl ?_
    refine r_icmp_ge C 81 dX11_keepDraft_60 (by decide)  (fun h19 => ?_) (fun h19 => ?_)
    · have hF := if_t h19 hF
      refine r_drop (ls2 := [(0, vR (40, 0, 0))]) [0] rfl ?_
      exact hkx81 _ hF
    · have hF := if_f h19 hF
      refine r_aload_n C 0 0 dX11_keepDraft_63 rfl rfl ?_
      refine r_getR (kf := 2) (d2 := (43, 0, 0)) C dX11_keepDraft_64 rfl rfl f_X11 (by decide) t_5_60 rfl rfl ?_
      refine r_iload_n C 1 2 dX11_keepDraft_67 rfl rfl ?_
      refine r_aload_n C 0 0 dX11_keepDraft_68 rfl rfl ?_
      refine r_getR (kf := 3) (d2 := (44, 0, 0)) C dX11_keepDraft_69 rfl rfl f_X11 (by decide) t_5_61 rfl rfl ?_
      refine r_iload_n C 1 2 dX11_keepDraft_72 rfl rfl ?_
      obtain ⟨h15, hF⟩ := ck_e hF
      refine r_iaload C (v2.toNatClampNeg) dX11_keepDraft_73 rfl h15 rfl ?_
      obtain ⟨h16, hF⟩ := ck_e hF
      obtain ⟨σ17, eσ17, hF⟩ := nam_e hF
      refine r_iastore C (v2.toNatClampNeg) dX11_keepDraft_74 rfl h16 rfl eσ17 ?_
      obtain ⟨x18, ex18, hF⟩ := nam_e hF
      refine r_iinc (v := x18) (ls2 := [(2, vI x18), (0, vR (40, 0, 0))]) C 1 dX11_keepDraft_75 rfl ex18.symm (by decide) rfl ?_
      refine r_goto C 57 dX11_keepDraft_78 (by decide) ?_
      refine r_drop (ls2 := [(0, vR (40, 0, 0)), (2, vI x18)]) [1, 0] rfl ?_
      exact ih _ _ hF
set_option maxRecDepth 20000 in
set_option maxHeartbeats 4000000 in
theorem s_X11_keepDraft (G : Gx) (l : Launch)  {σ σ' : St}  (hF : F_X11_keepDraft  σ = some ((), σ')) : Sp G l yX11_keepDraft cX11_keepDraft 3 none (lvl 0) [vR (40, 0, 0)] σ (va_Qv (fun b => b = σ') (Wd G) (AG G)) := by
  refine Sp_of (own := RX11) (by decide) rfl (Nat.le_of_ble_eq_true rfl) ?_
  intro p e s m args below meth c C
  show Rt G p l e (lvl 0) s m args below meth c 0 0 (MQ below (va_Qv (fun b => b = σ') (Wd G) (AG G)) args s 0 0 (AG G)) 3 0 [(0, vR (40, 0, 0))] [] σ
  unfold F_X11_keepDraft at hF
  refine r_aload_n C 0 0 dX11_keepDraft_0 rfl rfl ?_
  refine r_getR (kf := 0) (d2 := (41, 0, 0)) C dX11_keepDraft_1 rfl rfl f_X11 (by decide) t_5_58 rfl rfl ?_
  refine r_sipush (v := (175 : Int32)) C dX11_keepDraft_4 rfl ?_
  obtain ⟨h1, hF⟩ := ck_e hF
  refine r_iaload C 175 dX11_keepDraft_7 rfl h1 rfl ?_
  obtain ⟨x2, ex2, hF⟩ := nam_e hF
  refine r_topI ex2 ?_
  refine r_istore_n (ls2 := [(1, vI x2), (0, vR (40, 0, 0))]) C dX11_keepDraft_8 1 rfl (by decide) rfl ?_
  refine r_iconst (v := (0 : Int32)) C dX11_keepDraft_9 rfl ?_
  refine r_istore_n (ls2 := [(2, vI (0 : Int32)), (1, vI x2), (0, vR (40, 0, 0))]) C dX11_keepDraft_10 2 rfl (by decide) rfl ?_
  refine r_drop (ls2 := [(0, vR (40, 0, 0)), (1, vI x2), (2, vI (0 : Int32))]) [2, 1, 0] rfl ?_
  refine l_X11_keepDraft_11 C x2 _ ?_ _ _ _ hF
  · intro  σ12 hF
    refine r_aload_n C 0 0 dX11_keepDraft_46 rfl rfl ?_
    refine r_getR (kf := 0) (d2 := (41, 0, 0)) C dX11_keepDraft_47 rfl rfl f_X11 (by decide) t_5_58 rfl rfl ?_
    refine r_sipush (v := (175 : Int32)) C dX11_keepDraft_50 rfl ?_
    refine r_iload_n C 1 1 dX11_keepDraft_53 rfl rfl ?_
    obtain ⟨h13, hF⟩ := ck_e hF
    obtain ⟨σ14, eσ14, hF⟩ := nam_e hF
    refine r_iastore C 175 dX11_keepDraft_54 rfl h13 rfl eσ14 ?_
    refine r_iconst (v := (0 : Int32)) C dX11_keepDraft_55 rfl ?_
    refine r_istore_n (ls2 := [(2, vI (0 : Int32)), (0, vR (40, 0, 0)), (1, vI x2)]) C dX11_keepDraft_56 2 rfl (by decide) rfl ?_
    refine r_drop (ls2 := [(0, vR (40, 0, 0)), (2, vI (0 : Int32))]) [1, 0] rfl ?_
    refine l_X11_keepDraft_57 C  _ ?_ _ _ _ hF
    · intro  σ20 hF
      refine r_aload_n C 0 0 dX11_keepDraft_81 rfl rfl ?_
      refine r_iconst (v := (0 : Int32)) C dX11_keepDraft_82 rfl ?_
      obtain ⟨σ21, eσ21, hF⟩ := nam_e hF
      refine r_put (kf := 23) (ty0 := tyX11) C dX11_keepDraft_83 rfl rfl f_X11 tyX11_ok nmX11 (by decide) t_5_81 rfl rfl rfl rfl eσ21 ?_
      refine r_aload_n C 0 0 dX11_keepDraft_86 rfl rfl ?_
      refine r_getR (kf := 1) (d2 := (42, 0, 0)) C dX11_keepDraft_87 rfl rfl f_X11 (by decide) t_5_59 rfl rfl ?_
      refine r_iconst (v := (0 : Int32)) C dX11_keepDraft_90 rfl ?_
      refine r_iconst (v := (0 : Int32)) C dX11_keepDraft_91 rfl ?_
      obtain ⟨h22, hF⟩ := ck_e hF
      obtain ⟨σ23, eσ23, hF⟩ := nam_e hF
      refine r_zastore C 0 dX11_keepDraft_92 rfl h22 rfl eσ23 ?_
      refine r_aload_n C 0 0 dX11_keepDraft_93 rfl rfl ?_
      refine r_getR (kf := 1) (d2 := (42, 0, 0)) C dX11_keepDraft_94 rfl rfl f_X11 (by decide) t_5_59 rfl rfl ?_
      refine r_iconst (v := (1 : Int32)) C dX11_keepDraft_97 rfl ?_
      refine r_iconst (v := (0 : Int32)) C dX11_keepDraft_98 rfl ?_
      obtain ⟨h24, hF⟩ := ck_e hF
      obtain ⟨σ25, eσ25, hF⟩ := nam_e hF
      refine r_zastore C 1 dX11_keepDraft_99 rfl h24 rfl eσ25 ?_
      exact r_return C dX11_keepDraft_100 (rv_e hF)
def L_X11_feed_19 (c1 : Int64) : Nat → Int32 → St → Option (Int32 × St)
  | 0, _, _ => none
  | n + 1, v3, τ =>
  (if v3 < 0 then some (τ.1 (40, 0, 0) 8, τ) else ck (inb (τ.1 (40, 0, 0) 8) 320) (nam (uI τ (47, 0, 0) ((τ.1 (40, 0, 0) 8).toNatClampNeg) (((c1 >>> (v3.toInt64 &&& 63)) &&& (255 : Int64)).toInt32)) fun σ2 => nam (uI σ2 (40, 0, 0) 8 ((σ2.1 (40, 0, 0) 8) + (1 : Int32))) fun σ3 => nam (v3 + (-8 : Int32)) fun x4 => L_X11_feed_19 c1 n x4 σ3))
def F_X11_feed (a1 : Int64) (σ : St) : Option (Int32 × St) :=
  (if ((σ.1 (40, 0, 0) 8) + (8 : Int32)) ≤ (320 : Int32) then L_X11_feed_19 a1 FU (56 : Int32) σ  else some ((-3 : Int32), σ))
set_option maxRecDepth 20000 in
set_option maxHeartbeats 4000000 in
theorem l_X11_feed_19 {G : Gx} {p : Program} {l : Launch} {e : Env} {s : State} {m : MethodId} {args : Array Value} {below : List Frame} {meth : Method} {c : Code} (C : Cx G p s m args meth c (some .int) 4 RX11 cX11_feed) (c1 : Int64) {σ' : St} {r : Int32} : ∀ (n : Nat) (v3 : Int32) (τ : St), L_X11_feed_19 c1 n v3 τ = some (r, σ') → Rt G p l e (lvl 0) s m args below meth c 0 0 (MQ below (va_Qi (fun a b => a = r ∧ b = σ') (Wd G) (AG G)) args s 0 0 (AG G)) 4 19 [(0, vR (40, 0, 0)), (1, vL c1), (3, vI v3)] [] τ := by
  intro n
  induction n with
  | zero => intro v3 τ hF; cases hF
  | succ n ih =>
    intro v3 τ hF
    unfold L_X11_feed_19 at hF
    refine r_iload_n C 2 3 dX11_feed_19 rfl rfl ?_
    refine r_if_lt C 56 dX11_feed_20 (by decide)  (fun h5 => ?_) (fun h5 => ?_)
    · have hF := if_t h5 hF
      refine r_aload_n C 0 0 dX11_feed_56 rfl rfl ?_
      refine r_getI (kf := 8) C dX11_feed_57 rfl rfl f_X11 (by decide) t_5_66 rfl ?_
      exact r_ireturn C dX11_feed_60 (rt_e hF)
    · have hF := if_f h5 hF
      refine r_aload_n C 0 0 dX11_feed_23 rfl rfl ?_
      refine r_getR (kf := 7) (d2 := (47, 0, 0)) C dX11_feed_24 rfl rfl f_X11 (by decide) t_5_65 rfl rfl ?_
      refine r_aload_n C 0 0 dX11_feed_27 rfl rfl ?_
      refine r_getI (kf := 8) C dX11_feed_28 rfl rfl f_X11 (by decide) t_5_66 rfl ?_
      refine r_lload_n C 1 1 dX11_feed_31 rfl rfl ?_
      refine r_iload_n C 2 3 dX11_feed_32 rfl rfl ?_
      refine r_lshr C dX11_feed_33 ?_
      refine r_ldc2_w (v := (255 : Int64)) C dX11_feed_34 t_5_150 ?_
      refine r_land C dX11_feed_37 ?_
      refine r_l2i C dX11_feed_38 ?_
      obtain ⟨h1, hF⟩ := ck_e hF
      obtain ⟨σ2, eσ2, hF⟩ := nam_e hF
      refine r_iastore C ((τ.1 (40, 0, 0) 8).toNatClampNeg) dX11_feed_39 rfl h1 rfl eσ2 ?_
      refine r_aload_n C 0 0 dX11_feed_40 rfl rfl ?_
      refine r_dup_r C dX11_feed_41 ?_
      refine r_getI (kf := 8) C dX11_feed_42 rfl rfl f_X11 (by decide) t_5_66 rfl ?_
      refine r_iconst (v := (1 : Int32)) C dX11_feed_45 rfl ?_
      refine r_iadd C dX11_feed_46 ?_
      obtain ⟨σ3, eσ3, hF⟩ := nam_e hF
      refine r_put (kf := 8) (ty0 := tyX11) C dX11_feed_47 rfl rfl f_X11 tyX11_ok nmX11 (by decide) t_5_66 rfl rfl rfl rfl eσ3 ?_
      obtain ⟨x4, ex4, hF⟩ := nam_e hF
      refine r_iinc (v := x4) (ls2 := [(3, vI x4), (0, vR (40, 0, 0)), (1, vL c1)]) C 2 dX11_feed_50 rfl ex4.symm (by decide) rfl ?_
      refine r_goto C 19 dX11_feed_53 (by decide) ?_
      refine r_drop (ls2 := [(0, vR (40, 0, 0)), (1, vL c1), (3, vI x4)]) [1, 2, 0] rfl ?_
      exact ih _ _ hF
set_option maxRecDepth 20000 in
set_option maxHeartbeats 4000000 in
theorem s_X11_feed (G : Gx) (l : Launch) {a1 : Int64} {σ σ' : St} {r : Int32} (hF : F_X11_feed a1 σ = some (r, σ')) : Sp G l yX11_feed cX11_feed 4 (some .int) (lvl 0) [vR (40, 0, 0), vL a1] σ (va_Qi (fun a b => a = r ∧ b = σ') (Wd G) (AG G)) := by
  refine Sp_of (own := RX11) (by decide) rfl (Nat.le_of_ble_eq_true rfl) ?_
  intro p e s m args below meth c C
  show Rt G p l e (lvl 0) s m args below meth c 0 0 (MQ below (va_Qi (fun a b => a = r ∧ b = σ') (Wd G) (AG G)) args s 0 0 (AG G)) 4 0 [(0, vR (40, 0, 0)), (1, vL a1)] [] σ
  unfold F_X11_feed at hF
  refine r_aload_n C 0 0 dX11_feed_0 rfl rfl ?_
  refine r_getI (kf := 8) C dX11_feed_1 rfl rfl f_X11 (by decide) t_5_66 rfl ?_
  refine r_bipush (v := (8 : Int32)) C dX11_feed_4 rfl ?_
  refine r_iadd C dX11_feed_6 ?_
  refine r_sipush (v := (320 : Int32)) C dX11_feed_7 rfl ?_
  refine r_icmp_le C 16 dX11_feed_10 (by decide)  (fun h6 => ?_) (fun h6 => ?_)
  · have hF := if_t h6 hF
    refine r_bipush (v := (56 : Int32)) C dX11_feed_16 rfl ?_
    refine r_istore_n (ls2 := [(3, vI (56 : Int32)), (0, vR (40, 0, 0)), (1, vL a1)]) C dX11_feed_18 3 rfl (by decide) rfl ?_
    refine r_drop (ls2 := [(0, vR (40, 0, 0)), (1, vL a1), (3, vI (56 : Int32))]) [1, 2, 0] rfl ?_
    refine l_X11_feed_19 C a1  _ _ _ hF
  · have hF := if_f h6 hF
    refine r_bipush (v := (-3 : Int32)) C dX11_feed_13 rfl ?_
    exact r_ireturn C dX11_feed_15 (rt_e hF)
def F_X11_end (a1 : Int32) (σ : St) : Option (Int32 × St) :=
  bd (F_X11_in (a1.toInt64) (0 : Int64) ((σ.1 (40, 0, 0) 8).toInt64) σ) fun r2 σ1 => (if r2 = 0 then some ((-1 : Int32), σ1) else nam (σ1.1 (40, 0, 0) 8) fun x4 => nam (uI σ1 (40, 0, 0) 8 a1) fun σ5 => some (x4, σ5))
set_option maxRecDepth 20000 in
set_option maxHeartbeats 4000000 in
theorem s_X11_end (G : Gx) (l : Launch) {a1 : Int32} {σ σ' : St} {r : Int32} (hF : F_X11_end a1 σ = some (r, σ')) : Sp G l yX11_end cX11_end 3 (some .int) (lvl 1) [vR (40, 0, 0), vI a1] σ (va_Qi (fun a b => a = r ∧ b = σ') (Wd G) (AG G)) := by
  refine Sp_of (own := RX11) (by decide) rfl (Nat.le_of_ble_eq_true rfl) ?_
  intro p e s m args below meth c C
  show Rt G p l e (lvl 1) s m args below meth c 0 0 (MQ below (va_Qi (fun a b => a = r ∧ b = σ') (Wd G) (AG G)) args s 0 0 (AG G)) 3 0 [(0, vR (40, 0, 0)), (1, vI a1)] [] σ
  unfold F_X11_end at hF
  refine r_iload_n C 1 1 dX11_end_0 rfl rfl ?_
  refine r_i2l C dX11_end_1 ?_
  refine r_lconst (v := (0 : Int64)) C dX11_end_2 rfl ?_
  refine r_aload_n C 0 0 dX11_end_3 rfl rfl ?_
  refine r_getI (kf := 8) C dX11_end_4 rfl rfl f_X11 (by decide) t_5_66 rfl ?_
  refine r_i2l C dX11_end_7 ?_
  obtain ⟨r2, σ1, e3, hF⟩ := bd_e hF
  refine r_callS_i (as := [vL (a1.toInt64), vL (0 : Int64), vL ((σ.1 (40, 0, 0) 8).toInt64)]) (st := []) C dX11_end_8 (s_X11_in G l e3) t_5_155 t_5_156 t_1_14 t_5_157 m_X11_in ⟨Nat.le_of_ble_eq_true rfl, Nat.le_of_ble_eq_true rfl⟩ ⟨rfl, rfl⟩ ⟨Nat.zero_le _, Nat.zero_le _⟩ rfl (Nat.le_of_ble_eq_true rfl) ?_
  refine r_if_ne C 16 dX11_end_11 (by decide)  (fun h6 => ?_) (fun h6 => ?_)
  · have hF := if_f h6 hF
    refine r_aload_n C 0 0 dX11_end_16 rfl rfl ?_
    refine r_getI (kf := 8) C dX11_end_17 rfl rfl f_X11 (by decide) t_5_66 rfl ?_
    obtain ⟨x4, ex4, hF⟩ := nam_e hF
    refine r_topI ex4 ?_
    refine r_istore_n (ls2 := [(2, vI x4), (0, vR (40, 0, 0)), (1, vI a1)]) C dX11_end_20 2 rfl (by decide) rfl ?_
    refine r_aload_n C 1 0 dX11_end_21 rfl rfl ?_
    refine r_iload_n C 2 1 dX11_end_22 rfl rfl ?_
    obtain ⟨σ5, eσ5, hF⟩ := nam_e hF
    refine r_put (kf := 8) (ty0 := tyX11) C dX11_end_23 rfl rfl f_X11 tyX11_ok nmX11 (by decide) t_5_66 rfl rfl rfl rfl eσ5 ?_
    refine r_iload_n C 0 2 dX11_end_26 rfl rfl ?_
    exact r_ireturn C dX11_end_27 (rt_e hF)
  · have hF := if_t h6 hF
    refine r_iconst (v := (-1 : Int32)) C dX11_end_14 rfl ?_
    exact r_ireturn C dX11_end_15 (rt_e hF)
def F_X11_needs (a1 : Int32) (a2 : Int32) (σ : St) : Option (Unit × St) :=
  (if a1 = 0 then (if (σ.1 (40, 0, 0) 13) = 0 then nam (uI σ (40, 0, 0) 13 a2) fun σ1 => nam (uI σ1 (40, 0, 0) 14 (σ1.1 (40, 0, 0) 10)) fun σ2 => some ((), σ2) else some ((), σ)) else some ((), σ))
set_option maxRecDepth 20000 in
set_option maxHeartbeats 4000000 in
theorem s_X11_needs (G : Gx) (l : Launch) {a1 : Int32} {a2 : Int32} {σ σ' : St}  (hF : F_X11_needs a1 a2 σ = some ((), σ')) : Sp G l yX11_needs cX11_needs 3 none (lvl 0) [vR (40, 0, 0), vI a1, vI a2] σ (va_Qv (fun b => b = σ') (Wd G) (AG G)) := by
  refine Sp_of (own := RX11) (by decide) rfl (Nat.le_of_ble_eq_true rfl) ?_
  intro p e s m args below meth c C
  show Rt G p l e (lvl 0) s m args below meth c 0 0 (MQ below (va_Qv (fun b => b = σ') (Wd G) (AG G)) args s 0 0 (AG G)) 3 0 [(0, vR (40, 0, 0)), (1, vI a1), (2, vI a2)] [] σ
  unfold F_X11_needs at hF
  refine r_iload_n C 1 1 dX11_needs_0 rfl rfl ?_
  refine r_if_ne C 24 dX11_needs_1 (by decide)  (fun h4 => ?_) (fun h4 => ?_)
  · have hF := if_f h4 hF
    exact r_return C dX11_needs_24 (rv_e hF)
  · have hF := if_t h4 hF
    refine r_aload_n C 0 0 dX11_needs_4 rfl rfl ?_
    refine r_getI (kf := 13) C dX11_needs_5 rfl rfl f_X11 (by decide) t_5_71 rfl ?_
    refine r_if_ne C 24 dX11_needs_8 (by decide)  (fun h3 => ?_) (fun h3 => ?_)
    · have hF := if_f h3 hF
      exact r_return C dX11_needs_24 (rv_e hF)
    · have hF := if_t h3 hF
      refine r_aload_n C 0 0 dX11_needs_11 rfl rfl ?_
      refine r_iload_n C 2 2 dX11_needs_12 rfl rfl ?_
      obtain ⟨σ1, eσ1, hF⟩ := nam_e hF
      refine r_put (kf := 13) (ty0 := tyX11) C dX11_needs_13 rfl rfl f_X11 tyX11_ok nmX11 (by decide) t_5_71 rfl rfl rfl rfl eσ1 ?_
      refine r_aload_n C 0 0 dX11_needs_16 rfl rfl ?_
      refine r_aload_n C 0 0 dX11_needs_17 rfl rfl ?_
      refine r_getI (kf := 10) C dX11_needs_18 rfl rfl f_X11 (by decide) t_5_68 rfl ?_
      obtain ⟨σ2, eσ2, hF⟩ := nam_e hF
      refine r_put (kf := 14) (ty0 := tyX11) C dX11_needs_21 rfl rfl f_X11 tyX11_ok nmX11 (by decide) t_5_72 rfl rfl rfl rfl eσ2 ?_
      exact r_return C dX11_needs_24 (rv_e hF)
def F_X11_look (a1 : Int32) (σ : St) : Option (Int32 × St) :=
  (if (σ.1 (40, 0, 0) 8) ≤ a1 then some ((-1 : Int32), σ) else ck (inb a1 320) (some (σ.1 (47, 0, 0) (a1.toNatClampNeg), σ)))
set_option maxRecDepth 20000 in
set_option maxHeartbeats 4000000 in
theorem s_X11_look (G : Gx) (l : Launch) {a1 : Int32} {σ σ' : St} {r : Int32} (hF : F_X11_look a1 σ = some (r, σ')) : Sp G l yX11_look cX11_look 2 (some .int) (lvl 0) [vR (40, 0, 0), vI a1] σ (va_Qi (fun a b => a = r ∧ b = σ') (Wd G) (AG G)) := by
  refine Sp_of (own := RX11) (by decide) rfl (Nat.le_of_ble_eq_true rfl) ?_
  intro p e s m args below meth c C
  show Rt G p l e (lvl 0) s m args below meth c 0 0 (MQ below (va_Qi (fun a b => a = r ∧ b = σ') (Wd G) (AG G)) args s 0 0 (AG G)) 2 0 [(0, vR (40, 0, 0)), (1, vI a1)] [] σ
  unfold F_X11_look at hF
  refine r_iload_n C 1 1 dX11_look_0 rfl rfl ?_
  refine r_aload_n C 0 0 dX11_look_1 rfl rfl ?_
  refine r_getI (kf := 8) C dX11_look_2 rfl rfl f_X11 (by decide) t_5_66 rfl ?_
  refine r_icmp_ge C 17 dX11_look_5 (by decide)  (fun h2 => ?_) (fun h2 => ?_)
  · have hF := if_t h2 hF
    refine r_iconst (v := (-1 : Int32)) C dX11_look_17 rfl ?_
    exact r_ireturn C dX11_look_18 (rt_e hF)
  · have hF := if_f h2 hF
    refine r_aload_n C 0 0 dX11_look_8 rfl rfl ?_
    refine r_getR (kf := 7) (d2 := (47, 0, 0)) C dX11_look_9 rfl rfl f_X11 (by decide) t_5_65 rfl rfl ?_
    refine r_iload_n C 1 1 dX11_look_12 rfl rfl ?_
    obtain ⟨h1, hF⟩ := ck_e hF
    refine r_iaload C (a1.toNatClampNeg) dX11_look_13 rfl h1 rfl ?_
    refine r_goto C 18 dX11_look_14 (by decide) ?_
    exact r_ireturn C dX11_look_18 (rt_e hF)
def F_X11_starts (a1 : Int32) (a2 : Int32) (a3 : Int32) (a4 : Int32) (a5 : Int32) (σ : St) : Option (Int32 × St) :=
  (if ((σ.1 (40, 0, 0) 9) - (σ.1 (40, 0, 0) 10)) = a1 then bd (F_X11_look (σ.1 (40, 0, 0) 10) σ) fun r2 σ1 => (if r2 = a2 then bd (F_X11_look ((σ1.1 (40, 0, 0) 10) + (1 : Int32)) σ1) fun r5 σ4 => (if r5 = a3 then (if a1 < (3 : Int32) then (if a1 < (4 : Int32) then some ((1 : Int32), σ4) else bd (F_X11_look ((σ4.1 (40, 0, 0) 10) + (3 : Int32)) σ4) fun r8 σ7 => (if r8 = a5 then some ((1 : Int32), σ7) else some ((0 : Int32), σ7))) else bd (F_X11_look ((σ4.1 (40, 0, 0) 10) + (2 : Int32)) σ4) fun r13 σ12 => (if r13 = a4 then (if a1 < (4 : Int32) then some ((1 : Int32), σ12) else bd (F_X11_look ((σ12.1 (40, 0, 0) 10) + (3 : Int32)) σ12) fun r16 σ15 => (if r16 = a5 then some ((1 : Int32), σ15) else some ((0 : Int32), σ15))) else some ((0 : Int32), σ12))) else some ((0 : Int32), σ4)) else some ((0 : Int32), σ1)) else some ((0 : Int32), σ))
set_option maxRecDepth 20000 in
set_option maxHeartbeats 4000000 in
theorem s_X11_starts (G : Gx) (l : Launch) {a1 : Int32} {a2 : Int32} {a3 : Int32} {a4 : Int32} {a5 : Int32} {σ σ' : St} {r : Int32} (hF : F_X11_starts a1 a2 a3 a4 a5 σ = some (r, σ')) : Sp G l yX11_starts cX11_starts 6 (some .boolean) (lvl 1) [vR (40, 0, 0), vI a1, vI a2, vI a3, vI a4, vI a5] σ (va_Qi (fun a b => a = r ∧ b = σ') (Wd G) (AG G)) := by
  refine Sp_of (own := RX11) (by decide) rfl (Nat.le_of_ble_eq_true rfl) ?_
  intro p e s m args below meth c C
  show Rt G p l e (lvl 1) s m args below meth c 0 0 (MQ below (va_Qi (fun a b => a = r ∧ b = σ') (Wd G) (AG G)) args s 0 0 (AG G)) 6 0 [(0, vR (40, 0, 0)), (1, vI a1), (2, vI a2), (3, vI a3), (4, vI a4), (5, vI a5)] [] σ
  unfold F_X11_starts at hF
  refine r_aload_n C 0 0 dX11_starts_0 rfl rfl ?_
  refine r_getI (kf := 9) C dX11_starts_1 rfl rfl f_X11 (by decide) t_5_67 rfl ?_
  refine r_aload_n C 0 0 dX11_starts_4 rfl rfl ?_
  refine r_getI (kf := 10) C dX11_starts_5 rfl rfl f_X11 (by decide) t_5_68 rfl ?_
  refine r_isub C dX11_starts_8 ?_
  refine r_iload_n C 1 1 dX11_starts_9 rfl rfl ?_
  refine r_icmp_ne C 83 dX11_starts_10 (by decide)  (fun h24 => ?_) (fun h24 => ?_)
  · have hF := if_f h24 hF
    refine r_iconst (v := (0 : Int32)) C dX11_starts_83 rfl ?_
    exact r_zreturn C dX11_starts_84 (nar_z (Or.inl rfl)) (rt_e hF)
  · have hF := if_t h24 hF
    refine r_aload_n C 0 0 dX11_starts_13 rfl rfl ?_
    refine r_aload_n C 0 0 dX11_starts_14 rfl rfl ?_
    refine r_getI (kf := 10) C dX11_starts_15 rfl rfl f_X11 (by decide) t_5_68 rfl ?_
    obtain ⟨r2, σ1, e3, hF⟩ := bd_e hF
    refine r_callV_i (as := [vI (σ.1 (40, 0, 0) 10)]) (st := []) C dX11_starts_18 (s_X11_look G l e3) rfl rfl rfl t_5_166 t_5_168 t_s_24 t_1_14 t_5_169 m_X11_look ⟨Nat.le_of_ble_eq_true rfl, Nat.le_of_ble_eq_true rfl⟩ ⟨rfl, rfl⟩ ⟨Nat.zero_le _, Nat.zero_le _⟩ rfl (Nat.le_of_ble_eq_true rfl) ?_
    refine r_iload_n C 2 2 dX11_starts_21 rfl rfl ?_
    refine r_icmp_ne C 83 dX11_starts_22 (by decide)  (fun h23 => ?_) (fun h23 => ?_)
    · have hF := if_f h23 hF
      refine r_iconst (v := (0 : Int32)) C dX11_starts_83 rfl ?_
      exact r_zreturn C dX11_starts_84 (nar_z (Or.inl rfl)) (rt_e hF)
    · have hF := if_t h23 hF
      refine r_aload_n C 0 0 dX11_starts_25 rfl rfl ?_
      refine r_aload_n C 0 0 dX11_starts_26 rfl rfl ?_
      refine r_getI (kf := 10) C dX11_starts_27 rfl rfl f_X11 (by decide) t_5_68 rfl ?_
      refine r_iconst (v := (1 : Int32)) C dX11_starts_30 rfl ?_
      refine r_iadd C dX11_starts_31 ?_
      obtain ⟨r5, σ4, e6, hF⟩ := bd_e hF
      refine r_callV_i (as := [vI ((σ1.1 (40, 0, 0) 10) + (1 : Int32))]) (st := []) C dX11_starts_32 (s_X11_look G l e6) rfl rfl rfl t_5_166 t_5_168 t_s_24 t_1_14 t_5_169 m_X11_look ⟨Nat.le_of_ble_eq_true rfl, Nat.le_of_ble_eq_true rfl⟩ ⟨rfl, rfl⟩ ⟨Nat.zero_le _, Nat.zero_le _⟩ rfl (Nat.le_of_ble_eq_true rfl) ?_
      refine r_iload_n C 3 3 dX11_starts_35 rfl rfl ?_
      refine r_icmp_ne C 83 dX11_starts_36 (by decide)  (fun h22 => ?_) (fun h22 => ?_)
      · have hF := if_f h22 hF
        refine r_iconst (v := (0 : Int32)) C dX11_starts_83 rfl ?_
        exact r_zreturn C dX11_starts_84 (nar_z (Or.inl rfl)) (rt_e hF)
      · have hF := if_t h22 hF
        refine r_iload_n C 1 1 dX11_starts_39 rfl rfl ?_
        refine r_iconst (v := (3 : Int32)) C dX11_starts_40 rfl ?_
        refine r_icmp_lt C 59 dX11_starts_41 (by decide)  (fun h21 => ?_) (fun h21 => ?_)
        · have hF := if_t h21 hF
          refine r_iload_n C 1 1 dX11_starts_59 rfl rfl ?_
          refine r_iconst (v := (4 : Int32)) C dX11_starts_60 rfl ?_
          refine r_icmp_lt C 79 dX11_starts_61 (by decide)  (fun h11 => ?_) (fun h11 => ?_)
          · have hF := if_t h11 hF
            refine r_iconst (v := (1 : Int32)) C dX11_starts_79 rfl ?_
            refine r_goto C 84 dX11_starts_80 (by decide) ?_
            exact r_zreturn C dX11_starts_84 (nar_z (Or.inr rfl)) (rt_e hF)
          · have hF := if_f h11 hF
            refine r_aload_n C 0 0 dX11_starts_64 rfl rfl ?_
            refine r_aload_n C 0 0 dX11_starts_65 rfl rfl ?_
            refine r_getI (kf := 10) C dX11_starts_66 rfl rfl f_X11 (by decide) t_5_68 rfl ?_
            refine r_iconst (v := (3 : Int32)) C dX11_starts_69 rfl ?_
            refine r_iadd C dX11_starts_70 ?_
            obtain ⟨r8, σ7, e9, hF⟩ := bd_e hF
            refine r_callV_i (as := [vI ((σ4.1 (40, 0, 0) 10) + (3 : Int32))]) (st := []) C dX11_starts_71 (s_X11_look G l e9) rfl rfl rfl t_5_166 t_5_168 t_s_24 t_1_14 t_5_169 m_X11_look ⟨Nat.le_of_ble_eq_true rfl, Nat.le_of_ble_eq_true rfl⟩ ⟨rfl, rfl⟩ ⟨Nat.zero_le _, Nat.zero_le _⟩ rfl (Nat.le_of_ble_eq_true rfl) ?_
            refine r_iload C 5 dX11_starts_74 rfl ?_
            refine r_icmp_ne C 83 dX11_starts_76 (by decide)  (fun h10 => ?_) (fun h10 => ?_)
            · have hF := if_f h10 hF
              refine r_iconst (v := (0 : Int32)) C dX11_starts_83 rfl ?_
              exact r_zreturn C dX11_starts_84 (nar_z (Or.inl rfl)) (rt_e hF)
            · have hF := if_t h10 hF
              refine r_iconst (v := (1 : Int32)) C dX11_starts_79 rfl ?_
              refine r_goto C 84 dX11_starts_80 (by decide) ?_
              exact r_zreturn C dX11_starts_84 (nar_z (Or.inr rfl)) (rt_e hF)
        · have hF := if_f h21 hF
          refine r_aload_n C 0 0 dX11_starts_44 rfl rfl ?_
          refine r_aload_n C 0 0 dX11_starts_45 rfl rfl ?_
          refine r_getI (kf := 10) C dX11_starts_46 rfl rfl f_X11 (by decide) t_5_68 rfl ?_
          refine r_iconst (v := (2 : Int32)) C dX11_starts_49 rfl ?_
          refine r_iadd C dX11_starts_50 ?_
          obtain ⟨r13, σ12, e14, hF⟩ := bd_e hF
          refine r_callV_i (as := [vI ((σ4.1 (40, 0, 0) 10) + (2 : Int32))]) (st := []) C dX11_starts_51 (s_X11_look G l e14) rfl rfl rfl t_5_166 t_5_168 t_s_24 t_1_14 t_5_169 m_X11_look ⟨Nat.le_of_ble_eq_true rfl, Nat.le_of_ble_eq_true rfl⟩ ⟨rfl, rfl⟩ ⟨Nat.zero_le _, Nat.zero_le _⟩ rfl (Nat.le_of_ble_eq_true rfl) ?_
          refine r_iload C 4 dX11_starts_54 rfl ?_
          refine r_icmp_ne C 83 dX11_starts_56 (by decide)  (fun h20 => ?_) (fun h20 => ?_)
          · have hF := if_f h20 hF
            refine r_iconst (v := (0 : Int32)) C dX11_starts_83 rfl ?_
            exact r_zreturn C dX11_starts_84 (nar_z (Or.inl rfl)) (rt_e hF)
          · have hF := if_t h20 hF
            refine r_iload_n C 1 1 dX11_starts_59 rfl rfl ?_
            refine r_iconst (v := (4 : Int32)) C dX11_starts_60 rfl ?_
            refine r_icmp_lt C 79 dX11_starts_61 (by decide)  (fun h19 => ?_) (fun h19 => ?_)
            · have hF := if_t h19 hF
              refine r_iconst (v := (1 : Int32)) C dX11_starts_79 rfl ?_
              refine r_goto C 84 dX11_starts_80 (by decide) ?_
              exact r_zreturn C dX11_starts_84 (nar_z (Or.inr rfl)) (rt_e hF)
            · have hF := if_f h19 hF
              refine r_aload_n C 0 0 dX11_starts_64 rfl rfl ?_
              refine r_aload_n C 0 0 dX11_starts_65 rfl rfl ?_
              refine r_getI (kf := 10) C dX11_starts_66 rfl rfl f_X11 (by decide) t_5_68 rfl ?_
              refine r_iconst (v := (3 : Int32)) C dX11_starts_69 rfl ?_
              refine r_iadd C dX11_starts_70 ?_
              obtain ⟨r16, σ15, e17, hF⟩ := bd_e hF
              refine r_callV_i (as := [vI ((σ12.1 (40, 0, 0) 10) + (3 : Int32))]) (st := []) C dX11_starts_71 (s_X11_look G l e17) rfl rfl rfl t_5_166 t_5_168 t_s_24 t_1_14 t_5_169 m_X11_look ⟨Nat.le_of_ble_eq_true rfl, Nat.le_of_ble_eq_true rfl⟩ ⟨rfl, rfl⟩ ⟨Nat.zero_le _, Nat.zero_le _⟩ rfl (Nat.le_of_ble_eq_true rfl) ?_
              refine r_iload C 5 dX11_starts_74 rfl ?_
              refine r_icmp_ne C 83 dX11_starts_76 (by decide)  (fun h18 => ?_) (fun h18 => ?_)
              · have hF := if_f h18 hF
                refine r_iconst (v := (0 : Int32)) C dX11_starts_83 rfl ?_
                exact r_zreturn C dX11_starts_84 (nar_z (Or.inl rfl)) (rt_e hF)
              · have hF := if_t h18 hF
                refine r_iconst (v := (1 : Int32)) C dX11_starts_79 rfl ?_
                refine r_goto C 84 dX11_starts_80 (by decide) ?_
                exact r_zreturn C dX11_starts_84 (nar_z (Or.inr rfl)) (rt_e hF)
def F_X11_nameNow  (σ : St) : Option (Int32 × St) :=
  bd (F_X11_starts (3 : Int32) (114 : Int32) (111 : Int32) (119 : Int32) (0 : Int32) σ) fun r2 σ1 => (if r2 = 0 then bd (F_X11_starts (2 : Int32) (117 : Int32) (112 : Int32) (0 : Int32) (0 : Int32) σ1) fun r5 σ4 => (if r5 = 0 then bd (F_X11_starts (4 : Int32) (100 : Int32) (111 : Int32) (119 : Int32) (110 : Int32) σ4) fun r8 σ7 => (if r8 = 0 then bd (F_X11_starts (5 : Int32) (116 : Int32) (101 : Int32) (101 : Int32) (116 : Int32) σ7) fun r11 σ10 => (if r11 = 0 then bd (F_X11_starts (4 : Int32) (108 : Int32) (101 : Int32) (97 : Int32) (112 : Int32) σ10) fun r14 σ13 => (if r14 = 0 then bd (F_X11_starts (7 : Int32) (99 : Int32) (104 : Int32) (105 : Int32) (109 : Int32) σ13) fun r17 σ16 => (if r17 = 0 then bd (F_X11_starts (4 : Int32) (104 : Int32) (105 : Int32) (115 : Int32) (115 : Int32) σ16) fun r20 σ19 => (if r20 = 0 then bd (F_X11_starts (4 : Int32) (102 : Int32) (105 : Int32) (108 : Int32) (109 : Int32) σ19) fun r23 σ22 => (if r23 = 0 then bd (F_X11_starts (4 : Int32) (114 : Int32) (111 : Int32) (108 : Int32) (108 : Int32) σ22) fun r26 σ25 => (if r26 = 0 then some ((-4 : Int32), σ25) else some ((8 : Int32), σ25)) else some ((7 : Int32), σ22)) else some ((6 : Int32), σ19)) else bd (F_X11_look ((σ16.1 (40, 0, 0) 10) + (4 : Int32)) σ16) fun r32 σ31 => (if r32 = (110 : Int32) then bd (F_X11_look ((σ31.1 (40, 0, 0) 10) + (5 : Int32)) σ31) fun r47 σ46 => (if r47 = (101 : Int32) then bd (F_X11_look ((σ46.1 (40, 0, 0) 10) + (6 : Int32)) σ46) fun r62 σ61 => (if r62 = (121 : Int32) then some ((5 : Int32), σ61) else bd (F_X11_starts (4 : Int32) (104 : Int32) (105 : Int32) (115 : Int32) (115 : Int32) σ61) fun r65 σ64 => (if r65 = 0 then bd (F_X11_starts (4 : Int32) (102 : Int32) (105 : Int32) (108 : Int32) (109 : Int32) σ64) fun r68 σ67 => (if r68 = 0 then bd (F_X11_starts (4 : Int32) (114 : Int32) (111 : Int32) (108 : Int32) (108 : Int32) σ67) fun r71 σ70 => (if r71 = 0 then some ((-4 : Int32), σ70) else some ((8 : Int32), σ70)) else some ((7 : Int32), σ67)) else some ((6 : Int32), σ64))) else bd (F_X11_starts (4 : Int32) (104 : Int32) (105 : Int32) (115 : Int32) (115 : Int32) σ46) fun r50 σ49 => (if r50 = 0 then bd (F_X11_starts (4 : Int32) (102 : Int32) (105 : Int32) (108 : Int32) (109 : Int32) σ49) fun r53 σ52 => (if r53 = 0 then bd (F_X11_starts (4 : Int32) (114 : Int32) (111 : Int32) (108 : Int32) (108 : Int32) σ52) fun r56 σ55 => (if r56 = 0 then some ((-4 : Int32), σ55) else some ((8 : Int32), σ55)) else some ((7 : Int32), σ52)) else some ((6 : Int32), σ49))) else bd (F_X11_starts (4 : Int32) (104 : Int32) (105 : Int32) (115 : Int32) (115 : Int32) σ31) fun r35 σ34 => (if r35 = 0 then bd (F_X11_starts (4 : Int32) (102 : Int32) (105 : Int32) (108 : Int32) (109 : Int32) σ34) fun r38 σ37 => (if r38 = 0 then bd (F_X11_starts (4 : Int32) (114 : Int32) (111 : Int32) (108 : Int32) (108 : Int32) σ37) fun r41 σ40 => (if r41 = 0 then some ((-4 : Int32), σ40) else some ((8 : Int32), σ40)) else some ((7 : Int32), σ37)) else some ((6 : Int32), σ34)))) else some ((4 : Int32), σ13)) else bd (F_X11_look ((σ10.1 (40, 0, 0) 10) + (4 : Int32)) σ10) fun r82 σ81 => (if r82 = (104 : Int32) then some ((2 : Int32), σ81) else bd (F_X11_starts (4 : Int32) (108 : Int32) (101 : Int32) (97 : Int32) (112 : Int32) σ81) fun r85 σ84 => (if r85 = 0 then bd (F_X11_starts (7 : Int32) (99 : Int32) (104 : Int32) (105 : Int32) (109 : Int32) σ84) fun r88 σ87 => (if r88 = 0 then bd (F_X11_starts (4 : Int32) (104 : Int32) (105 : Int32) (115 : Int32) (115 : Int32) σ87) fun r91 σ90 => (if r91 = 0 then bd (F_X11_starts (4 : Int32) (102 : Int32) (105 : Int32) (108 : Int32) (109 : Int32) σ90) fun r94 σ93 => (if r94 = 0 then bd (F_X11_starts (4 : Int32) (114 : Int32) (111 : Int32) (108 : Int32) (108 : Int32) σ93) fun r97 σ96 => (if r97 = 0 then some ((-4 : Int32), σ96) else some ((8 : Int32), σ96)) else some ((7 : Int32), σ93)) else some ((6 : Int32), σ90)) else bd (F_X11_look ((σ87.1 (40, 0, 0) 10) + (4 : Int32)) σ87) fun r103 σ102 => (if r103 = (110 : Int32) then bd (F_X11_look ((σ102.1 (40, 0, 0) 10) + (5 : Int32)) σ102) fun r118 σ117 => (if r118 = (101 : Int32) then bd (F_X11_look ((σ117.1 (40, 0, 0) 10) + (6 : Int32)) σ117) fun r133 σ132 => (if r133 = (121 : Int32) then some ((5 : Int32), σ132) else bd (F_X11_starts (4 : Int32) (104 : Int32) (105 : Int32) (115 : Int32) (115 : Int32) σ132) fun r136 σ135 => (if r136 = 0 then bd (F_X11_starts (4 : Int32) (102 : Int32) (105 : Int32) (108 : Int32) (109 : Int32) σ135) fun r139 σ138 => (if r139 = 0 then bd (F_X11_starts (4 : Int32) (114 : Int32) (111 : Int32) (108 : Int32) (108 : Int32) σ138) fun r142 σ141 => (if r142 = 0 then some ((-4 : Int32), σ141) else some ((8 : Int32), σ141)) else some ((7 : Int32), σ138)) else some ((6 : Int32), σ135))) else bd (F_X11_starts (4 : Int32) (104 : Int32) (105 : Int32) (115 : Int32) (115 : Int32) σ117) fun r121 σ120 => (if r121 = 0 then bd (F_X11_starts (4 : Int32) (102 : Int32) (105 : Int32) (108 : Int32) (109 : Int32) σ120) fun r124 σ123 => (if r124 = 0 then bd (F_X11_starts (4 : Int32) (114 : Int32) (111 : Int32) (108 : Int32) (108 : Int32) σ123) fun r127 σ126 => (if r127 = 0 then some ((-4 : Int32), σ126) else some ((8 : Int32), σ126)) else some ((7 : Int32), σ123)) else some ((6 : Int32), σ120))) else bd (F_X11_starts (4 : Int32) (104 : Int32) (105 : Int32) (115 : Int32) (115 : Int32) σ102) fun r106 σ105 => (if r106 = 0 then bd (F_X11_starts (4 : Int32) (102 : Int32) (105 : Int32) (108 : Int32) (109 : Int32) σ105) fun r109 σ108 => (if r109 = 0 then bd (F_X11_starts (4 : Int32) (114 : Int32) (111 : Int32) (108 : Int32) (108 : Int32) σ108) fun r112 σ111 => (if r112 = 0 then some ((-4 : Int32), σ111) else some ((8 : Int32), σ111)) else some ((7 : Int32), σ108)) else some ((6 : Int32), σ105)))) else some ((4 : Int32), σ84)))) else some ((1 : Int32), σ7)) else some ((0 : Int32), σ4)) else some ((20 : Int32), σ1))
set_option maxRecDepth 20000 in
set_option maxHeartbeats 4000000 in
theorem s_X11_nameNow (G : Gx) (l : Launch)  {σ σ' : St} {r : Int32} (hF : F_X11_nameNow  σ = some (r, σ')) : Sp G l yX11_nameNow cX11_nameNow 1 (some .int) (lvl 2) [vR (40, 0, 0)] σ (va_Qi (fun a b => a = r ∧ b = σ') (Wd G) (AG G)) := by
  refine Sp_of (own := RX11) (by decide) rfl (Nat.le_of_ble_eq_true rfl) ?_
  intro p e s m args below meth c C
  show Rt G p l e (lvl 2) s m args below meth c 0 0 (MQ below (va_Qi (fun a b => a = r ∧ b = σ') (Wd G) (AG G)) args s 0 0 (AG G)) 1 0 [(0, vR (40, 0, 0))] [] σ
  unfold F_X11_nameNow at hF
  refine r_aload_n C 0 0 dX11_nameNow_0 rfl rfl ?_
  refine r_iconst (v := (3 : Int32)) C dX11_nameNow_1 rfl ?_
  refine r_bipush (v := (114 : Int32)) C dX11_nameNow_2 rfl ?_
  refine r_bipush (v := (111 : Int32)) C dX11_nameNow_4 rfl ?_
  refine r_bipush (v := (119 : Int32)) C dX11_nameNow_6 rfl ?_
  refine r_iconst (v := (0 : Int32)) C dX11_nameNow_8 rfl ?_
  obtain ⟨r2, σ1, e3, hF⟩ := bd_e hF
  refine r_callV_i (as := [vI (3 : Int32), vI (114 : Int32), vI (111 : Int32), vI (119 : Int32), vI (0 : Int32)]) (st := []) C dX11_nameNow_9 (s_X11_starts G l e3) rfl rfl rfl t_5_186 t_5_188 t_s_28 t_1_14 t_5_189 m_X11_starts ⟨Nat.le_of_ble_eq_true rfl, Nat.le_of_ble_eq_true rfl⟩ ⟨rfl, rfl⟩ ⟨Nat.zero_le _, Nat.zero_le _⟩ rfl (Nat.le_of_ble_eq_true rfl) ?_
  refine r_if_eq C 18 dX11_nameNow_12 (by decide)  (fun h156 => ?_) (fun h156 => ?_)
  · have hF := if_t h156 hF
    refine r_aload_n C 0 0 dX11_nameNow_18 rfl rfl ?_
    refine r_iconst (v := (2 : Int32)) C dX11_nameNow_19 rfl ?_
    refine r_bipush (v := (117 : Int32)) C dX11_nameNow_20 rfl ?_
    refine r_bipush (v := (112 : Int32)) C dX11_nameNow_22 rfl ?_
    refine r_iconst (v := (0 : Int32)) C dX11_nameNow_24 rfl ?_
    refine r_iconst (v := (0 : Int32)) C dX11_nameNow_25 rfl ?_
    obtain ⟨r5, σ4, e6, hF⟩ := bd_e hF
    refine r_callV_i (as := [vI (2 : Int32), vI (117 : Int32), vI (112 : Int32), vI (0 : Int32), vI (0 : Int32)]) (st := []) C dX11_nameNow_26 (s_X11_starts G l e6) rfl rfl rfl t_5_186 t_5_188 t_s_28 t_1_14 t_5_189 m_X11_starts ⟨Nat.le_of_ble_eq_true rfl, Nat.le_of_ble_eq_true rfl⟩ ⟨rfl, rfl⟩ ⟨Nat.zero_le _, Nat.zero_le _⟩ rfl (Nat.le_of_ble_eq_true rfl) ?_
    refine r_if_eq C 34 dX11_nameNow_29 (by decide)  (fun h155 => ?_) (fun h155 => ?_)
    · have hF := if_t h155 hF
      refine r_aload_n C 0 0 dX11_nameNow_34 rfl rfl ?_
      refine r_iconst (v := (4 : Int32)) C dX11_nameNow_35 rfl ?_
      refine r_bipush (v := (100 : Int32)) C dX11_nameNow_36 rfl ?_
      refine r_bipush (v := (111 : Int32)) C dX11_nameNow_38 rfl ?_
      refine r_bipush (v := (119 : Int32)) C dX11_nameNow_40 rfl ?_
      refine r_bipush (v := (110 : Int32)) C dX11_nameNow_42 rfl ?_
      obtain ⟨r8, σ7, e9, hF⟩ := bd_e hF
      refine r_callV_i (as := [vI (4 : Int32), vI (100 : Int32), vI (111 : Int32), vI (119 : Int32), vI (110 : Int32)]) (st := []) C dX11_nameNow_44 (s_X11_starts G l e9) rfl rfl rfl t_5_186 t_5_188 t_s_28 t_1_14 t_5_189 m_X11_starts ⟨Nat.le_of_ble_eq_true rfl, Nat.le_of_ble_eq_true rfl⟩ ⟨rfl, rfl⟩ ⟨Nat.zero_le _, Nat.zero_le _⟩ rfl (Nat.le_of_ble_eq_true rfl) ?_
      refine r_if_eq C 52 dX11_nameNow_47 (by decide)  (fun h154 => ?_) (fun h154 => ?_)
      · have hF := if_t h154 hF
        refine r_aload_n C 0 0 dX11_nameNow_52 rfl rfl ?_
        refine r_iconst (v := (5 : Int32)) C dX11_nameNow_53 rfl ?_
        refine r_bipush (v := (116 : Int32)) C dX11_nameNow_54 rfl ?_
        refine r_bipush (v := (101 : Int32)) C dX11_nameNow_56 rfl ?_
        refine r_bipush (v := (101 : Int32)) C dX11_nameNow_58 rfl ?_
        refine r_bipush (v := (116 : Int32)) C dX11_nameNow_60 rfl ?_
        obtain ⟨r11, σ10, e12, hF⟩ := bd_e hF
        refine r_callV_i (as := [vI (5 : Int32), vI (116 : Int32), vI (101 : Int32), vI (101 : Int32), vI (116 : Int32)]) (st := []) C dX11_nameNow_62 (s_X11_starts G l e12) rfl rfl rfl t_5_186 t_5_188 t_s_28 t_1_14 t_5_189 m_X11_starts ⟨Nat.le_of_ble_eq_true rfl, Nat.le_of_ble_eq_true rfl⟩ ⟨rfl, rfl⟩ ⟨Nat.zero_le _, Nat.zero_le _⟩ rfl (Nat.le_of_ble_eq_true rfl) ?_
        refine r_if_eq C 85 dX11_nameNow_65 (by decide)  (fun h153 => ?_) (fun h153 => ?_)
        · have hF := if_t h153 hF
          refine r_aload_n C 0 0 dX11_nameNow_85 rfl rfl ?_
          refine r_iconst (v := (4 : Int32)) C dX11_nameNow_86 rfl ?_
          refine r_bipush (v := (108 : Int32)) C dX11_nameNow_87 rfl ?_
          refine r_bipush (v := (101 : Int32)) C dX11_nameNow_89 rfl ?_
          refine r_bipush (v := (97 : Int32)) C dX11_nameNow_91 rfl ?_
          refine r_bipush (v := (112 : Int32)) C dX11_nameNow_93 rfl ?_
          obtain ⟨r14, σ13, e15, hF⟩ := bd_e hF
          refine r_callV_i (as := [vI (4 : Int32), vI (108 : Int32), vI (101 : Int32), vI (97 : Int32), vI (112 : Int32)]) (st := []) C dX11_nameNow_95 (s_X11_starts G l e15) rfl rfl rfl t_5_186 t_5_188 t_s_28 t_1_14 t_5_189 m_X11_starts ⟨Nat.le_of_ble_eq_true rfl, Nat.le_of_ble_eq_true rfl⟩ ⟨rfl, rfl⟩ ⟨Nat.zero_le _, Nat.zero_le _⟩ rfl (Nat.le_of_ble_eq_true rfl) ?_
          refine r_if_eq C 103 dX11_nameNow_98 (by decide)  (fun h80 => ?_) (fun h80 => ?_)
          · have hF := if_t h80 hF
            refine r_aload_n C 0 0 dX11_nameNow_103 rfl rfl ?_
            refine r_bipush (v := (7 : Int32)) C dX11_nameNow_104 rfl ?_
            refine r_bipush (v := (99 : Int32)) C dX11_nameNow_106 rfl ?_
            refine r_bipush (v := (104 : Int32)) C dX11_nameNow_108 rfl ?_
            refine r_bipush (v := (105 : Int32)) C dX11_nameNow_110 rfl ?_
            refine r_bipush (v := (109 : Int32)) C dX11_nameNow_112 rfl ?_
            obtain ⟨r17, σ16, e18, hF⟩ := bd_e hF
            refine r_callV_i (as := [vI (7 : Int32), vI (99 : Int32), vI (104 : Int32), vI (105 : Int32), vI (109 : Int32)]) (st := []) C dX11_nameNow_114 (s_X11_starts G l e18) rfl rfl rfl t_5_186 t_5_188 t_s_28 t_1_14 t_5_189 m_X11_starts ⟨Nat.le_of_ble_eq_true rfl, Nat.le_of_ble_eq_true rfl⟩ ⟨rfl, rfl⟩ ⟨Nat.zero_le _, Nat.zero_le _⟩ rfl (Nat.le_of_ble_eq_true rfl) ?_
            refine r_if_eq C 168 dX11_nameNow_117 (by decide)  (fun h79 => ?_) (fun h79 => ?_)
            · have hF := if_t h79 hF
              refine r_aload_n C 0 0 dX11_nameNow_168 rfl rfl ?_
              refine r_iconst (v := (4 : Int32)) C dX11_nameNow_169 rfl ?_
              refine r_bipush (v := (104 : Int32)) C dX11_nameNow_170 rfl ?_
              refine r_bipush (v := (105 : Int32)) C dX11_nameNow_172 rfl ?_
              refine r_bipush (v := (115 : Int32)) C dX11_nameNow_174 rfl ?_
              refine r_bipush (v := (115 : Int32)) C dX11_nameNow_176 rfl ?_
              obtain ⟨r20, σ19, e21, hF⟩ := bd_e hF
              refine r_callV_i (as := [vI (4 : Int32), vI (104 : Int32), vI (105 : Int32), vI (115 : Int32), vI (115 : Int32)]) (st := []) C dX11_nameNow_178 (s_X11_starts G l e21) rfl rfl rfl t_5_186 t_5_188 t_s_28 t_1_14 t_5_189 m_X11_starts ⟨Nat.le_of_ble_eq_true rfl, Nat.le_of_ble_eq_true rfl⟩ ⟨rfl, rfl⟩ ⟨Nat.zero_le _, Nat.zero_le _⟩ rfl (Nat.le_of_ble_eq_true rfl) ?_
              refine r_if_eq C 187 dX11_nameNow_181 (by decide)  (fun h30 => ?_) (fun h30 => ?_)
              · have hF := if_t h30 hF
                refine r_aload_n C 0 0 dX11_nameNow_187 rfl rfl ?_
                refine r_iconst (v := (4 : Int32)) C dX11_nameNow_188 rfl ?_
                refine r_bipush (v := (102 : Int32)) C dX11_nameNow_189 rfl ?_
                refine r_bipush (v := (105 : Int32)) C dX11_nameNow_191 rfl ?_
                refine r_bipush (v := (108 : Int32)) C dX11_nameNow_193 rfl ?_
                refine r_bipush (v := (109 : Int32)) C dX11_nameNow_195 rfl ?_
                obtain ⟨r23, σ22, e24, hF⟩ := bd_e hF
                refine r_callV_i (as := [vI (4 : Int32), vI (102 : Int32), vI (105 : Int32), vI (108 : Int32), vI (109 : Int32)]) (st := []) C dX11_nameNow_197 (s_X11_starts G l e24) rfl rfl rfl t_5_186 t_5_188 t_s_28 t_1_14 t_5_189 m_X11_starts ⟨Nat.le_of_ble_eq_true rfl, Nat.le_of_ble_eq_true rfl⟩ ⟨rfl, rfl⟩ ⟨Nat.zero_le _, Nat.zero_le _⟩ rfl (Nat.le_of_ble_eq_true rfl) ?_
                refine r_if_eq C 208 dX11_nameNow_200 (by decide)  (fun h29 => ?_) (fun h29 => ?_)
                · have hF := if_t h29 hF
                  refine r_aload_n C 0 0 dX11_nameNow_208 rfl rfl ?_
                  refine r_iconst (v := (4 : Int32)) C dX11_nameNow_209 rfl ?_
                  refine r_bipush (v := (114 : Int32)) C dX11_nameNow_210 rfl ?_
                  refine r_bipush (v := (111 : Int32)) C dX11_nameNow_212 rfl ?_
                  refine r_bipush (v := (108 : Int32)) C dX11_nameNow_214 rfl ?_
                  refine r_bipush (v := (108 : Int32)) C dX11_nameNow_216 rfl ?_
                  obtain ⟨r26, σ25, e27, hF⟩ := bd_e hF
                  refine r_callV_i (as := [vI (4 : Int32), vI (114 : Int32), vI (111 : Int32), vI (108 : Int32), vI (108 : Int32)]) (st := []) C dX11_nameNow_218 (s_X11_starts G l e27) rfl rfl rfl t_5_186 t_5_188 t_s_28 t_1_14 t_5_189 m_X11_starts ⟨Nat.le_of_ble_eq_true rfl, Nat.le_of_ble_eq_true rfl⟩ ⟨rfl, rfl⟩ ⟨Nat.zero_le _, Nat.zero_le _⟩ rfl (Nat.le_of_ble_eq_true rfl) ?_
                  refine r_if_eq C 229 dX11_nameNow_221 (by decide)  (fun h28 => ?_) (fun h28 => ?_)
                  · have hF := if_t h28 hF
                    refine r_bipush (v := (-4 : Int32)) C dX11_nameNow_229 rfl ?_
                    exact r_ireturn C dX11_nameNow_231 (rt_e hF)
                  · have hF := if_f h28 hF
                    refine r_bipush (v := (8 : Int32)) C dX11_nameNow_224 rfl ?_
                    refine r_goto C 231 dX11_nameNow_226 (by decide) ?_
                    exact r_ireturn C dX11_nameNow_231 (rt_e hF)
                · have hF := if_f h29 hF
                  refine r_bipush (v := (7 : Int32)) C dX11_nameNow_203 rfl ?_
                  refine r_goto C 231 dX11_nameNow_205 (by decide) ?_
                  exact r_ireturn C dX11_nameNow_231 (rt_e hF)
              · have hF := if_f h30 hF
                refine r_bipush (v := (6 : Int32)) C dX11_nameNow_184 rfl ?_
                exact r_ireturn C dX11_nameNow_186 (rt_e hF)
            · have hF := if_f h79 hF
              refine r_aload_n C 0 0 dX11_nameNow_120 rfl rfl ?_
              refine r_aload_n C 0 0 dX11_nameNow_121 rfl rfl ?_
              refine r_getI (kf := 10) C dX11_nameNow_122 rfl rfl f_X11 (by decide) t_5_68 rfl ?_
              refine r_iconst (v := (4 : Int32)) C dX11_nameNow_125 rfl ?_
              refine r_iadd C dX11_nameNow_126 ?_
              obtain ⟨r32, σ31, e33, hF⟩ := bd_e hF
              refine r_callV_i (as := [vI ((σ16.1 (40, 0, 0) 10) + (4 : Int32))]) (st := []) C dX11_nameNow_127 (s_X11_look G l e33) rfl rfl rfl t_5_166 t_5_168 t_s_24 t_1_14 t_5_169 m_X11_look ⟨Nat.le_of_ble_eq_true rfl, Nat.le_of_ble_eq_true rfl⟩ ⟨rfl, rfl⟩ ⟨Nat.zero_le _, Nat.zero_le _⟩ rfl (Nat.le_of_ble_eq_true rfl) ?_
              refine r_bipush (v := (110 : Int32)) C dX11_nameNow_130 rfl ?_
              refine r_icmp_ne C 168 dX11_nameNow_132 (by decide)  (fun h78 => ?_) (fun h78 => ?_)
              · have hF := if_f h78 hF
                refine r_aload_n C 0 0 dX11_nameNow_168 rfl rfl ?_
                refine r_iconst (v := (4 : Int32)) C dX11_nameNow_169 rfl ?_
                refine r_bipush (v := (104 : Int32)) C dX11_nameNow_170 rfl ?_
                refine r_bipush (v := (105 : Int32)) C dX11_nameNow_172 rfl ?_
                refine r_bipush (v := (115 : Int32)) C dX11_nameNow_174 rfl ?_
                refine r_bipush (v := (115 : Int32)) C dX11_nameNow_176 rfl ?_
                obtain ⟨r35, σ34, e36, hF⟩ := bd_e hF
                refine r_callV_i (as := [vI (4 : Int32), vI (104 : Int32), vI (105 : Int32), vI (115 : Int32), vI (115 : Int32)]) (st := []) C dX11_nameNow_178 (s_X11_starts G l e36) rfl rfl rfl t_5_186 t_5_188 t_s_28 t_1_14 t_5_189 m_X11_starts ⟨Nat.le_of_ble_eq_true rfl, Nat.le_of_ble_eq_true rfl⟩ ⟨rfl, rfl⟩ ⟨Nat.zero_le _, Nat.zero_le _⟩ rfl (Nat.le_of_ble_eq_true rfl) ?_
                refine r_if_eq C 187 dX11_nameNow_181 (by decide)  (fun h45 => ?_) (fun h45 => ?_)
                · have hF := if_t h45 hF
                  refine r_aload_n C 0 0 dX11_nameNow_187 rfl rfl ?_
                  refine r_iconst (v := (4 : Int32)) C dX11_nameNow_188 rfl ?_
                  refine r_bipush (v := (102 : Int32)) C dX11_nameNow_189 rfl ?_
                  refine r_bipush (v := (105 : Int32)) C dX11_nameNow_191 rfl ?_
                  refine r_bipush (v := (108 : Int32)) C dX11_nameNow_193 rfl ?_
                  refine r_bipush (v := (109 : Int32)) C dX11_nameNow_195 rfl ?_
                  obtain ⟨r38, σ37, e39, hF⟩ := bd_e hF
                  refine r_callV_i (as := [vI (4 : Int32), vI (102 : Int32), vI (105 : Int32), vI (108 : Int32), vI (109 : Int32)]) (st := []) C dX11_nameNow_197 (s_X11_starts G l e39) rfl rfl rfl t_5_186 t_5_188 t_s_28 t_1_14 t_5_189 m_X11_starts ⟨Nat.le_of_ble_eq_true rfl, Nat.le_of_ble_eq_true rfl⟩ ⟨rfl, rfl⟩ ⟨Nat.zero_le _, Nat.zero_le _⟩ rfl (Nat.le_of_ble_eq_true rfl) ?_
                  refine r_if_eq C 208 dX11_nameNow_200 (by decide)  (fun h44 => ?_) (fun h44 => ?_)
                  · have hF := if_t h44 hF
                    refine r_aload_n C 0 0 dX11_nameNow_208 rfl rfl ?_
                    refine r_iconst (v := (4 : Int32)) C dX11_nameNow_209 rfl ?_
                    refine r_bipush (v := (114 : Int32)) C dX11_nameNow_210 rfl ?_
                    refine r_bipush (v := (111 : Int32)) C dX11_nameNow_212 rfl ?_
                    refine r_bipush (v := (108 : Int32)) C dX11_nameNow_214 rfl ?_
                    refine r_bipush (v := (108 : Int32)) C dX11_nameNow_216 rfl ?_
                    obtain ⟨r41, σ40, e42, hF⟩ := bd_e hF
                    refine r_callV_i (as := [vI (4 : Int32), vI (114 : Int32), vI (111 : Int32), vI (108 : Int32), vI (108 : Int32)]) (st := []) C dX11_nameNow_218 (s_X11_starts G l e42) rfl rfl rfl t_5_186 t_5_188 t_s_28 t_1_14 t_5_189 m_X11_starts ⟨Nat.le_of_ble_eq_true rfl, Nat.le_of_ble_eq_true rfl⟩ ⟨rfl, rfl⟩ ⟨Nat.zero_le _, Nat.zero_le _⟩ rfl (Nat.le_of_ble_eq_true rfl) ?_
                    refine r_if_eq C 229 dX11_nameNow_221 (by decide)  (fun h43 => ?_) (fun h43 => ?_)
                    · have hF := if_t h43 hF
                      refine r_bipush (v := (-4 : Int32)) C dX11_nameNow_229 rfl ?_
                      exact r_ireturn C dX11_nameNow_231 (rt_e hF)
                    · have hF := if_f h43 hF
                      refine r_bipush (v := (8 : Int32)) C dX11_nameNow_224 rfl ?_
                      refine r_goto C 231 dX11_nameNow_226 (by decide) ?_
                      exact r_ireturn C dX11_nameNow_231 (rt_e hF)
                  · have hF := if_f h44 hF
                    refine r_bipush (v := (7 : Int32)) C dX11_nameNow_203 rfl ?_
                    refine r_goto C 231 dX11_nameNow_205 (by decide) ?_
                    exact r_ireturn C dX11_nameNow_231 (rt_e hF)
                · have hF := if_f h45 hF
                  refine r_bipush (v := (6 : Int32)) C dX11_nameNow_184 rfl ?_
                  exact r_ireturn C dX11_nameNow_186 (rt_e hF)
              · have hF := if_t h78 hF
                refine r_aload_n C 0 0 dX11_nameNow_135 rfl rfl ?_
                refine r_aload_n C 0 0 dX11_nameNow_136 rfl rfl ?_
                refine r_getI (kf := 10) C dX11_nameNow_137 rfl rfl f_X11 (by decide) t_5_68 rfl ?_
                refine r_iconst (v := (5 : Int32)) C dX11_nameNow_140 rfl ?_
                refine r_iadd C dX11_nameNow_141 ?_
                obtain ⟨r47, σ46, e48, hF⟩ := bd_e hF
                refine r_callV_i (as := [vI ((σ31.1 (40, 0, 0) 10) + (5 : Int32))]) (st := []) C dX11_nameNow_142 (s_X11_look G l e48) rfl rfl rfl t_5_166 t_5_168 t_s_24 t_1_14 t_5_169 m_X11_look ⟨Nat.le_of_ble_eq_true rfl, Nat.le_of_ble_eq_true rfl⟩ ⟨rfl, rfl⟩ ⟨Nat.zero_le _, Nat.zero_le _⟩ rfl (Nat.le_of_ble_eq_true rfl) ?_
                refine r_bipush (v := (101 : Int32)) C dX11_nameNow_145 rfl ?_
                refine r_icmp_ne C 168 dX11_nameNow_147 (by decide)  (fun h77 => ?_) (fun h77 => ?_)
                · have hF := if_f h77 hF
                  refine r_aload_n C 0 0 dX11_nameNow_168 rfl rfl ?_
                  refine r_iconst (v := (4 : Int32)) C dX11_nameNow_169 rfl ?_
                  refine r_bipush (v := (104 : Int32)) C dX11_nameNow_170 rfl ?_
                  refine r_bipush (v := (105 : Int32)) C dX11_nameNow_172 rfl ?_
                  refine r_bipush (v := (115 : Int32)) C dX11_nameNow_174 rfl ?_
                  refine r_bipush (v := (115 : Int32)) C dX11_nameNow_176 rfl ?_
                  obtain ⟨r50, σ49, e51, hF⟩ := bd_e hF
                  refine r_callV_i (as := [vI (4 : Int32), vI (104 : Int32), vI (105 : Int32), vI (115 : Int32), vI (115 : Int32)]) (st := []) C dX11_nameNow_178 (s_X11_starts G l e51) rfl rfl rfl t_5_186 t_5_188 t_s_28 t_1_14 t_5_189 m_X11_starts ⟨Nat.le_of_ble_eq_true rfl, Nat.le_of_ble_eq_true rfl⟩ ⟨rfl, rfl⟩ ⟨Nat.zero_le _, Nat.zero_le _⟩ rfl (Nat.le_of_ble_eq_true rfl) ?_
                  refine r_if_eq C 187 dX11_nameNow_181 (by decide)  (fun h60 => ?_) (fun h60 => ?_)
                  · have hF := if_t h60 hF
                    refine r_aload_n C 0 0 dX11_nameNow_187 rfl rfl ?_
                    refine r_iconst (v := (4 : Int32)) C dX11_nameNow_188 rfl ?_
                    refine r_bipush (v := (102 : Int32)) C dX11_nameNow_189 rfl ?_
                    refine r_bipush (v := (105 : Int32)) C dX11_nameNow_191 rfl ?_
                    refine r_bipush (v := (108 : Int32)) C dX11_nameNow_193 rfl ?_
                    refine r_bipush (v := (109 : Int32)) C dX11_nameNow_195 rfl ?_
                    obtain ⟨r53, σ52, e54, hF⟩ := bd_e hF
                    refine r_callV_i (as := [vI (4 : Int32), vI (102 : Int32), vI (105 : Int32), vI (108 : Int32), vI (109 : Int32)]) (st := []) C dX11_nameNow_197 (s_X11_starts G l e54) rfl rfl rfl t_5_186 t_5_188 t_s_28 t_1_14 t_5_189 m_X11_starts ⟨Nat.le_of_ble_eq_true rfl, Nat.le_of_ble_eq_true rfl⟩ ⟨rfl, rfl⟩ ⟨Nat.zero_le _, Nat.zero_le _⟩ rfl (Nat.le_of_ble_eq_true rfl) ?_
                    refine r_if_eq C 208 dX11_nameNow_200 (by decide)  (fun h59 => ?_) (fun h59 => ?_)
                    · have hF := if_t h59 hF
                      refine r_aload_n C 0 0 dX11_nameNow_208 rfl rfl ?_
                      refine r_iconst (v := (4 : Int32)) C dX11_nameNow_209 rfl ?_
                      refine r_bipush (v := (114 : Int32)) C dX11_nameNow_210 rfl ?_
                      refine r_bipush (v := (111 : Int32)) C dX11_nameNow_212 rfl ?_
                      refine r_bipush (v := (108 : Int32)) C dX11_nameNow_214 rfl ?_
                      refine r_bipush (v := (108 : Int32)) C dX11_nameNow_216 rfl ?_
                      obtain ⟨r56, σ55, e57, hF⟩ := bd_e hF
                      refine r_callV_i (as := [vI (4 : Int32), vI (114 : Int32), vI (111 : Int32), vI (108 : Int32), vI (108 : Int32)]) (st := []) C dX11_nameNow_218 (s_X11_starts G l e57) rfl rfl rfl t_5_186 t_5_188 t_s_28 t_1_14 t_5_189 m_X11_starts ⟨Nat.le_of_ble_eq_true rfl, Nat.le_of_ble_eq_true rfl⟩ ⟨rfl, rfl⟩ ⟨Nat.zero_le _, Nat.zero_le _⟩ rfl (Nat.le_of_ble_eq_true rfl) ?_
                      refine r_if_eq C 229 dX11_nameNow_221 (by decide)  (fun h58 => ?_) (fun h58 => ?_)
                      · have hF := if_t h58 hF
                        refine r_bipush (v := (-4 : Int32)) C dX11_nameNow_229 rfl ?_
                        exact r_ireturn C dX11_nameNow_231 (rt_e hF)
                      · have hF := if_f h58 hF
                        refine r_bipush (v := (8 : Int32)) C dX11_nameNow_224 rfl ?_
                        refine r_goto C 231 dX11_nameNow_226 (by decide) ?_
                        exact r_ireturn C dX11_nameNow_231 (rt_e hF)
                    · have hF := if_f h59 hF
                      refine r_bipush (v := (7 : Int32)) C dX11_nameNow_203 rfl ?_
                      refine r_goto C 231 dX11_nameNow_205 (by decide) ?_
                      exact r_ireturn C dX11_nameNow_231 (rt_e hF)
                  · have hF := if_f h60 hF
                    refine r_bipush (v := (6 : Int32)) C dX11_nameNow_184 rfl ?_
                    exact r_ireturn C dX11_nameNow_186 (rt_e hF)
                · have hF := if_t h77 hF
                  refine r_aload_n C 0 0 dX11_nameNow_150 rfl rfl ?_
                  refine r_aload_n C 0 0 dX11_nameNow_151 rfl rfl ?_
                  refine r_getI (kf := 10) C dX11_nameNow_152 rfl rfl f_X11 (by decide) t_5_68 rfl ?_
                  refine r_bipush (v := (6 : Int32)) C dX11_nameNow_155 rfl ?_
                  refine r_iadd C dX11_nameNow_157 ?_
                  obtain ⟨r62, σ61, e63, hF⟩ := bd_e hF
                  refine r_callV_i (as := [vI ((σ46.1 (40, 0, 0) 10) + (6 : Int32))]) (st := []) C dX11_nameNow_158 (s_X11_look G l e63) rfl rfl rfl t_5_166 t_5_168 t_s_24 t_1_14 t_5_169 m_X11_look ⟨Nat.le_of_ble_eq_true rfl, Nat.le_of_ble_eq_true rfl⟩ ⟨rfl, rfl⟩ ⟨Nat.zero_le _, Nat.zero_le _⟩ rfl (Nat.le_of_ble_eq_true rfl) ?_
                  refine r_bipush (v := (121 : Int32)) C dX11_nameNow_161 rfl ?_
                  refine r_icmp_ne C 168 dX11_nameNow_163 (by decide)  (fun h76 => ?_) (fun h76 => ?_)
                  · have hF := if_f h76 hF
                    refine r_aload_n C 0 0 dX11_nameNow_168 rfl rfl ?_
                    refine r_iconst (v := (4 : Int32)) C dX11_nameNow_169 rfl ?_
                    refine r_bipush (v := (104 : Int32)) C dX11_nameNow_170 rfl ?_
                    refine r_bipush (v := (105 : Int32)) C dX11_nameNow_172 rfl ?_
                    refine r_bipush (v := (115 : Int32)) C dX11_nameNow_174 rfl ?_
                    refine r_bipush (v := (115 : Int32)) C dX11_nameNow_176 rfl ?_
                    obtain ⟨r65, σ64, e66, hF⟩ := bd_e hF
                    refine r_callV_i (as := [vI (4 : Int32), vI (104 : Int32), vI (105 : Int32), vI (115 : Int32), vI (115 : Int32)]) (st := []) C dX11_nameNow_178 (s_X11_starts G l e66) rfl rfl rfl t_5_186 t_5_188 t_s_28 t_1_14 t_5_189 m_X11_starts ⟨Nat.le_of_ble_eq_true rfl, Nat.le_of_ble_eq_true rfl⟩ ⟨rfl, rfl⟩ ⟨Nat.zero_le _, Nat.zero_le _⟩ rfl (Nat.le_of_ble_eq_true rfl) ?_
                    refine r_if_eq C 187 dX11_nameNow_181 (by decide)  (fun h75 => ?_) (fun h75 => ?_)
                    · have hF := if_t h75 hF
                      refine r_aload_n C 0 0 dX11_nameNow_187 rfl rfl ?_
                      refine r_iconst (v := (4 : Int32)) C dX11_nameNow_188 rfl ?_
                      refine r_bipush (v := (102 : Int32)) C dX11_nameNow_189 rfl ?_
                      refine r_bipush (v := (105 : Int32)) C dX11_nameNow_191 rfl ?_
                      refine r_bipush (v := (108 : Int32)) C dX11_nameNow_193 rfl ?_
                      refine r_bipush (v := (109 : Int32)) C dX11_nameNow_195 rfl ?_
                      obtain ⟨r68, σ67, e69, hF⟩ := bd_e hF
                      refine r_callV_i (as := [vI (4 : Int32), vI (102 : Int32), vI (105 : Int32), vI (108 : Int32), vI (109 : Int32)]) (st := []) C dX11_nameNow_197 (s_X11_starts G l e69) rfl rfl rfl t_5_186 t_5_188 t_s_28 t_1_14 t_5_189 m_X11_starts ⟨Nat.le_of_ble_eq_true rfl, Nat.le_of_ble_eq_true rfl⟩ ⟨rfl, rfl⟩ ⟨Nat.zero_le _, Nat.zero_le _⟩ rfl (Nat.le_of_ble_eq_true rfl) ?_
                      refine r_if_eq C 208 dX11_nameNow_200 (by decide)  (fun h74 => ?_) (fun h74 => ?_)
                      · have hF := if_t h74 hF
                        refine r_aload_n C 0 0 dX11_nameNow_208 rfl rfl ?_
                        refine r_iconst (v := (4 : Int32)) C dX11_nameNow_209 rfl ?_
                        refine r_bipush (v := (114 : Int32)) C dX11_nameNow_210 rfl ?_
                        refine r_bipush (v := (111 : Int32)) C dX11_nameNow_212 rfl ?_
                        refine r_bipush (v := (108 : Int32)) C dX11_nameNow_214 rfl ?_
                        refine r_bipush (v := (108 : Int32)) C dX11_nameNow_216 rfl ?_
                        obtain ⟨r71, σ70, e72, hF⟩ := bd_e hF
                        refine r_callV_i (as := [vI (4 : Int32), vI (114 : Int32), vI (111 : Int32), vI (108 : Int32), vI (108 : Int32)]) (st := []) C dX11_nameNow_218 (s_X11_starts G l e72) rfl rfl rfl t_5_186 t_5_188 t_s_28 t_1_14 t_5_189 m_X11_starts ⟨Nat.le_of_ble_eq_true rfl, Nat.le_of_ble_eq_true rfl⟩ ⟨rfl, rfl⟩ ⟨Nat.zero_le _, Nat.zero_le _⟩ rfl (Nat.le_of_ble_eq_true rfl) ?_
                        refine r_if_eq C 229 dX11_nameNow_221 (by decide)  (fun h73 => ?_) (fun h73 => ?_)
                        · have hF := if_t h73 hF
                          refine r_bipush (v := (-4 : Int32)) C dX11_nameNow_229 rfl ?_
                          exact r_ireturn C dX11_nameNow_231 (rt_e hF)
                        · have hF := if_f h73 hF
                          refine r_bipush (v := (8 : Int32)) C dX11_nameNow_224 rfl ?_
                          refine r_goto C 231 dX11_nameNow_226 (by decide) ?_
                          exact r_ireturn C dX11_nameNow_231 (rt_e hF)
                      · have hF := if_f h74 hF
                        refine r_bipush (v := (7 : Int32)) C dX11_nameNow_203 rfl ?_
                        refine r_goto C 231 dX11_nameNow_205 (by decide) ?_
                        exact r_ireturn C dX11_nameNow_231 (rt_e hF)
                    · have hF := if_f h75 hF
                      refine r_bipush (v := (6 : Int32)) C dX11_nameNow_184 rfl ?_
                      exact r_ireturn C dX11_nameNow_186 (rt_e hF)
                  · have hF := if_t h76 hF
                    refine r_iconst (v := (5 : Int32)) C dX11_nameNow_166 rfl ?_
                    exact r_ireturn C dX11_nameNow_167 (rt_e hF)
          · have hF := if_f h80 hF
            refine r_iconst (v := (4 : Int32)) C dX11_nameNow_101 rfl ?_
            exact r_ireturn C dX11_nameNow_102 (rt_e hF)
        · have hF := if_f h153 hF
          refine r_aload_n C 0 0 dX11_nameNow_68 rfl rfl ?_
          refine r_aload_n C 0 0 dX11_nameNow_69 rfl rfl ?_
          refine r_getI (kf := 10) C dX11_nameNow_70 rfl rfl f_X11 (by decide) t_5_68 rfl ?_
          refine r_iconst (v := (4 : Int32)) C dX11_nameNow_73 rfl ?_
          refine r_iadd C dX11_nameNow_74 ?_
          obtain ⟨r82, σ81, e83, hF⟩ := bd_e hF
          refine r_callV_i (as := [vI ((σ10.1 (40, 0, 0) 10) + (4 : Int32))]) (st := []) C dX11_nameNow_75 (s_X11_look G l e83) rfl rfl rfl t_5_166 t_5_168 t_s_24 t_1_14 t_5_169 m_X11_look ⟨Nat.le_of_ble_eq_true rfl, Nat.le_of_ble_eq_true rfl⟩ ⟨rfl, rfl⟩ ⟨Nat.zero_le _, Nat.zero_le _⟩ rfl (Nat.le_of_ble_eq_true rfl) ?_
          refine r_bipush (v := (104 : Int32)) C dX11_nameNow_78 rfl ?_
          refine r_icmp_ne C 85 dX11_nameNow_80 (by decide)  (fun h152 => ?_) (fun h152 => ?_)
          · have hF := if_f h152 hF
            refine r_aload_n C 0 0 dX11_nameNow_85 rfl rfl ?_
            refine r_iconst (v := (4 : Int32)) C dX11_nameNow_86 rfl ?_
            refine r_bipush (v := (108 : Int32)) C dX11_nameNow_87 rfl ?_
            refine r_bipush (v := (101 : Int32)) C dX11_nameNow_89 rfl ?_
            refine r_bipush (v := (97 : Int32)) C dX11_nameNow_91 rfl ?_
            refine r_bipush (v := (112 : Int32)) C dX11_nameNow_93 rfl ?_
            obtain ⟨r85, σ84, e86, hF⟩ := bd_e hF
            refine r_callV_i (as := [vI (4 : Int32), vI (108 : Int32), vI (101 : Int32), vI (97 : Int32), vI (112 : Int32)]) (st := []) C dX11_nameNow_95 (s_X11_starts G l e86) rfl rfl rfl t_5_186 t_5_188 t_s_28 t_1_14 t_5_189 m_X11_starts ⟨Nat.le_of_ble_eq_true rfl, Nat.le_of_ble_eq_true rfl⟩ ⟨rfl, rfl⟩ ⟨Nat.zero_le _, Nat.zero_le _⟩ rfl (Nat.le_of_ble_eq_true rfl) ?_
            refine r_if_eq C 103 dX11_nameNow_98 (by decide)  (fun h151 => ?_) (fun h151 => ?_)
            · have hF := if_t h151 hF
              refine r_aload_n C 0 0 dX11_nameNow_103 rfl rfl ?_
              refine r_bipush (v := (7 : Int32)) C dX11_nameNow_104 rfl ?_
              refine r_bipush (v := (99 : Int32)) C dX11_nameNow_106 rfl ?_
              refine r_bipush (v := (104 : Int32)) C dX11_nameNow_108 rfl ?_
              refine r_bipush (v := (105 : Int32)) C dX11_nameNow_110 rfl ?_
              refine r_bipush (v := (109 : Int32)) C dX11_nameNow_112 rfl ?_
              obtain ⟨r88, σ87, e89, hF⟩ := bd_e hF
              refine r_callV_i (as := [vI (7 : Int32), vI (99 : Int32), vI (104 : Int32), vI (105 : Int32), vI (109 : Int32)]) (st := []) C dX11_nameNow_114 (s_X11_starts G l e89) rfl rfl rfl t_5_186 t_5_188 t_s_28 t_1_14 t_5_189 m_X11_starts ⟨Nat.le_of_ble_eq_true rfl, Nat.le_of_ble_eq_true rfl⟩ ⟨rfl, rfl⟩ ⟨Nat.zero_le _, Nat.zero_le _⟩ rfl (Nat.le_of_ble_eq_true rfl) ?_
              refine r_if_eq C 168 dX11_nameNow_117 (by decide)  (fun h150 => ?_) (fun h150 => ?_)
              · have hF := if_t h150 hF
                refine r_aload_n C 0 0 dX11_nameNow_168 rfl rfl ?_
                refine r_iconst (v := (4 : Int32)) C dX11_nameNow_169 rfl ?_
                refine r_bipush (v := (104 : Int32)) C dX11_nameNow_170 rfl ?_
                refine r_bipush (v := (105 : Int32)) C dX11_nameNow_172 rfl ?_
                refine r_bipush (v := (115 : Int32)) C dX11_nameNow_174 rfl ?_
                refine r_bipush (v := (115 : Int32)) C dX11_nameNow_176 rfl ?_
                obtain ⟨r91, σ90, e92, hF⟩ := bd_e hF
                refine r_callV_i (as := [vI (4 : Int32), vI (104 : Int32), vI (105 : Int32), vI (115 : Int32), vI (115 : Int32)]) (st := []) C dX11_nameNow_178 (s_X11_starts G l e92) rfl rfl rfl t_5_186 t_5_188 t_s_28 t_1_14 t_5_189 m_X11_starts ⟨Nat.le_of_ble_eq_true rfl, Nat.le_of_ble_eq_true rfl⟩ ⟨rfl, rfl⟩ ⟨Nat.zero_le _, Nat.zero_le _⟩ rfl (Nat.le_of_ble_eq_true rfl) ?_
                refine r_if_eq C 187 dX11_nameNow_181 (by decide)  (fun h101 => ?_) (fun h101 => ?_)
                · have hF := if_t h101 hF
                  refine r_aload_n C 0 0 dX11_nameNow_187 rfl rfl ?_
                  refine r_iconst (v := (4 : Int32)) C dX11_nameNow_188 rfl ?_
                  refine r_bipush (v := (102 : Int32)) C dX11_nameNow_189 rfl ?_
                  refine r_bipush (v := (105 : Int32)) C dX11_nameNow_191 rfl ?_
                  refine r_bipush (v := (108 : Int32)) C dX11_nameNow_193 rfl ?_
                  refine r_bipush (v := (109 : Int32)) C dX11_nameNow_195 rfl ?_
                  obtain ⟨r94, σ93, e95, hF⟩ := bd_e hF
                  refine r_callV_i (as := [vI (4 : Int32), vI (102 : Int32), vI (105 : Int32), vI (108 : Int32), vI (109 : Int32)]) (st := []) C dX11_nameNow_197 (s_X11_starts G l e95) rfl rfl rfl t_5_186 t_5_188 t_s_28 t_1_14 t_5_189 m_X11_starts ⟨Nat.le_of_ble_eq_true rfl, Nat.le_of_ble_eq_true rfl⟩ ⟨rfl, rfl⟩ ⟨Nat.zero_le _, Nat.zero_le _⟩ rfl (Nat.le_of_ble_eq_true rfl) ?_
                  refine r_if_eq C 208 dX11_nameNow_200 (by decide)  (fun h100 => ?_) (fun h100 => ?_)
                  · have hF := if_t h100 hF
                    refine r_aload_n C 0 0 dX11_nameNow_208 rfl rfl ?_
                    refine r_iconst (v := (4 : Int32)) C dX11_nameNow_209 rfl ?_
                    refine r_bipush (v := (114 : Int32)) C dX11_nameNow_210 rfl ?_
                    refine r_bipush (v := (111 : Int32)) C dX11_nameNow_212 rfl ?_
                    refine r_bipush (v := (108 : Int32)) C dX11_nameNow_214 rfl ?_
                    refine r_bipush (v := (108 : Int32)) C dX11_nameNow_216 rfl ?_
                    obtain ⟨r97, σ96, e98, hF⟩ := bd_e hF
                    refine r_callV_i (as := [vI (4 : Int32), vI (114 : Int32), vI (111 : Int32), vI (108 : Int32), vI (108 : Int32)]) (st := []) C dX11_nameNow_218 (s_X11_starts G l e98) rfl rfl rfl t_5_186 t_5_188 t_s_28 t_1_14 t_5_189 m_X11_starts ⟨Nat.le_of_ble_eq_true rfl, Nat.le_of_ble_eq_true rfl⟩ ⟨rfl, rfl⟩ ⟨Nat.zero_le _, Nat.zero_le _⟩ rfl (Nat.le_of_ble_eq_true rfl) ?_
                    refine r_if_eq C 229 dX11_nameNow_221 (by decide)  (fun h99 => ?_) (fun h99 => ?_)
                    · have hF := if_t h99 hF
                      refine r_bipush (v := (-4 : Int32)) C dX11_nameNow_229 rfl ?_
                      exact r_ireturn C dX11_nameNow_231 (rt_e hF)
                    · have hF := if_f h99 hF
                      refine r_bipush (v := (8 : Int32)) C dX11_nameNow_224 rfl ?_
                      refine r_goto C 231 dX11_nameNow_226 (by decide) ?_
                      exact r_ireturn C dX11_nameNow_231 (rt_e hF)
                  · have hF := if_f h100 hF
                    refine r_bipush (v := (7 : Int32)) C dX11_nameNow_203 rfl ?_
                    refine r_goto C 231 dX11_nameNow_205 (by decide) ?_
                    exact r_ireturn C dX11_nameNow_231 (rt_e hF)
                · have hF := if_f h101 hF
                  refine r_bipush (v := (6 : Int32)) C dX11_nameNow_184 rfl ?_
                  exact r_ireturn C dX11_nameNow_186 (rt_e hF)
              · have hF := if_f h150 hF
                refine r_aload_n C 0 0 dX11_nameNow_120 rfl rfl ?_
                refine r_aload_n C 0 0 dX11_nameNow_121 rfl rfl ?_
                refine r_getI (kf := 10) C dX11_nameNow_122 rfl rfl f_X11 (by decide) t_5_68 rfl ?_
                refine r_iconst (v := (4 : Int32)) C dX11_nameNow_125 rfl ?_
                refine r_iadd C dX11_nameNow_126 ?_
                obtain ⟨r103, σ102, e104, hF⟩ := bd_e hF
                refine r_callV_i (as := [vI ((σ87.1 (40, 0, 0) 10) + (4 : Int32))]) (st := []) C dX11_nameNow_127 (s_X11_look G l e104) rfl rfl rfl t_5_166 t_5_168 t_s_24 t_1_14 t_5_169 m_X11_look ⟨Nat.le_of_ble_eq_true rfl, Nat.le_of_ble_eq_true rfl⟩ ⟨rfl, rfl⟩ ⟨Nat.zero_le _, Nat.zero_le _⟩ rfl (Nat.le_of_ble_eq_true rfl) ?_
                refine r_bipush (v := (110 : Int32)) C dX11_nameNow_130 rfl ?_
                refine r_icmp_ne C 168 dX11_nameNow_132 (by decide)  (fun h149 => ?_) (fun h149 => ?_)
                · have hF := if_f h149 hF
                  refine r_aload_n C 0 0 dX11_nameNow_168 rfl rfl ?_
                  refine r_iconst (v := (4 : Int32)) C dX11_nameNow_169 rfl ?_
                  refine r_bipush (v := (104 : Int32)) C dX11_nameNow_170 rfl ?_
                  refine r_bipush (v := (105 : Int32)) C dX11_nameNow_172 rfl ?_
                  refine r_bipush (v := (115 : Int32)) C dX11_nameNow_174 rfl ?_
                  refine r_bipush (v := (115 : Int32)) C dX11_nameNow_176 rfl ?_
                  obtain ⟨r106, σ105, e107, hF⟩ := bd_e hF
                  refine r_callV_i (as := [vI (4 : Int32), vI (104 : Int32), vI (105 : Int32), vI (115 : Int32), vI (115 : Int32)]) (st := []) C dX11_nameNow_178 (s_X11_starts G l e107) rfl rfl rfl t_5_186 t_5_188 t_s_28 t_1_14 t_5_189 m_X11_starts ⟨Nat.le_of_ble_eq_true rfl, Nat.le_of_ble_eq_true rfl⟩ ⟨rfl, rfl⟩ ⟨Nat.zero_le _, Nat.zero_le _⟩ rfl (Nat.le_of_ble_eq_true rfl) ?_
                  refine r_if_eq C 187 dX11_nameNow_181 (by decide)  (fun h116 => ?_) (fun h116 => ?_)
                  · have hF := if_t h116 hF
                    refine r_aload_n C 0 0 dX11_nameNow_187 rfl rfl ?_
                    refine r_iconst (v := (4 : Int32)) C dX11_nameNow_188 rfl ?_
                    refine r_bipush (v := (102 : Int32)) C dX11_nameNow_189 rfl ?_
                    refine r_bipush (v := (105 : Int32)) C dX11_nameNow_191 rfl ?_
                    refine r_bipush (v := (108 : Int32)) C dX11_nameNow_193 rfl ?_
                    refine r_bipush (v := (109 : Int32)) C dX11_nameNow_195 rfl ?_
                    obtain ⟨r109, σ108, e110, hF⟩ := bd_e hF
                    refine r_callV_i (as := [vI (4 : Int32), vI (102 : Int32), vI (105 : Int32), vI (108 : Int32), vI (109 : Int32)]) (st := []) C dX11_nameNow_197 (s_X11_starts G l e110) rfl rfl rfl t_5_186 t_5_188 t_s_28 t_1_14 t_5_189 m_X11_starts ⟨Nat.le_of_ble_eq_true rfl, Nat.le_of_ble_eq_true rfl⟩ ⟨rfl, rfl⟩ ⟨Nat.zero_le _, Nat.zero_le _⟩ rfl (Nat.le_of_ble_eq_true rfl) ?_
                    refine r_if_eq C 208 dX11_nameNow_200 (by decide)  (fun h115 => ?_) (fun h115 => ?_)
                    · have hF := if_t h115 hF
                      refine r_aload_n C 0 0 dX11_nameNow_208 rfl rfl ?_
                      refine r_iconst (v := (4 : Int32)) C dX11_nameNow_209 rfl ?_
                      refine r_bipush (v := (114 : Int32)) C dX11_nameNow_210 rfl ?_
                      refine r_bipush (v := (111 : Int32)) C dX11_nameNow_212 rfl ?_
                      refine r_bipush (v := (108 : Int32)) C dX11_nameNow_214 rfl ?_
                      refine r_bipush (v := (108 : Int32)) C dX11_nameNow_216 rfl ?_
                      obtain ⟨r112, σ111, e113, hF⟩ := bd_e hF
                      refine r_callV_i (as := [vI (4 : Int32), vI (114 : Int32), vI (111 : Int32), vI (108 : Int32), vI (108 : Int32)]) (st := []) C dX11_nameNow_218 (s_X11_starts G l e113) rfl rfl rfl t_5_186 t_5_188 t_s_28 t_1_14 t_5_189 m_X11_starts ⟨Nat.le_of_ble_eq_true rfl, Nat.le_of_ble_eq_true rfl⟩ ⟨rfl, rfl⟩ ⟨Nat.zero_le _, Nat.zero_le _⟩ rfl (Nat.le_of_ble_eq_true rfl) ?_
                      refine r_if_eq C 229 dX11_nameNow_221 (by decide)  (fun h114 => ?_) (fun h114 => ?_)
                      · have hF := if_t h114 hF
                        refine r_bipush (v := (-4 : Int32)) C dX11_nameNow_229 rfl ?_
                        exact r_ireturn C dX11_nameNow_231 (rt_e hF)
                      · have hF := if_f h114 hF
                        refine r_bipush (v := (8 : Int32)) C dX11_nameNow_224 rfl ?_
                        refine r_goto C 231 dX11_nameNow_226 (by decide) ?_
                        exact r_ireturn C dX11_nameNow_231 (rt_e hF)
                    · have hF := if_f h115 hF
                      refine r_bipush (v := (7 : Int32)) C dX11_nameNow_203 rfl ?_
                      refine r_goto C 231 dX11_nameNow_205 (by decide) ?_
                      exact r_ireturn C dX11_nameNow_231 (rt_e hF)
                  · have hF := if_f h116 hF
                    refine r_bipush (v := (6 : Int32)) C dX11_nameNow_184 rfl ?_
                    exact r_ireturn C dX11_nameNow_186 (rt_e hF)
                · have hF := if_t h149 hF
                  refine r_aload_n C 0 0 dX11_nameNow_135 rfl rfl ?_
                  refine r_aload_n C 0 0 dX11_nameNow_136 rfl rfl ?_
                  refine r_getI (kf := 10) C dX11_nameNow_137 rfl rfl f_X11 (by decide) t_5_68 rfl ?_
                  refine r_iconst (v := (5 : Int32)) C dX11_nameNow_140 rfl ?_
                  refine r_iadd C dX11_nameNow_141 ?_
                  obtain ⟨r118, σ117, e119, hF⟩ := bd_e hF
                  refine r_callV_i (as := [vI ((σ102.1 (40, 0, 0) 10) + (5 : Int32))]) (st := []) C dX11_nameNow_142 (s_X11_look G l e119) rfl rfl rfl t_5_166 t_5_168 t_s_24 t_1_14 t_5_169 m_X11_look ⟨Nat.le_of_ble_eq_true rfl, Nat.le_of_ble_eq_true rfl⟩ ⟨rfl, rfl⟩ ⟨Nat.zero_le _, Nat.zero_le _⟩ rfl (Nat.le_of_ble_eq_true rfl) ?_
                  refine r_bipush (v := (101 : Int32)) C dX11_nameNow_145 rfl ?_
                  refine r_icmp_ne C 168 dX11_nameNow_147 (by decide)  (fun h148 => ?_) (fun h148 => ?_)
                  · have hF := if_f h148 hF
                    refine r_aload_n C 0 0 dX11_nameNow_168 rfl rfl ?_
                    refine r_iconst (v := (4 : Int32)) C dX11_nameNow_169 rfl ?_
                    refine r_bipush (v := (104 : Int32)) C dX11_nameNow_170 rfl ?_
                    refine r_bipush (v := (105 : Int32)) C dX11_nameNow_172 rfl ?_
                    refine r_bipush (v := (115 : Int32)) C dX11_nameNow_174 rfl ?_
                    refine r_bipush (v := (115 : Int32)) C dX11_nameNow_176 rfl ?_
                    obtain ⟨r121, σ120, e122, hF⟩ := bd_e hF
                    refine r_callV_i (as := [vI (4 : Int32), vI (104 : Int32), vI (105 : Int32), vI (115 : Int32), vI (115 : Int32)]) (st := []) C dX11_nameNow_178 (s_X11_starts G l e122) rfl rfl rfl t_5_186 t_5_188 t_s_28 t_1_14 t_5_189 m_X11_starts ⟨Nat.le_of_ble_eq_true rfl, Nat.le_of_ble_eq_true rfl⟩ ⟨rfl, rfl⟩ ⟨Nat.zero_le _, Nat.zero_le _⟩ rfl (Nat.le_of_ble_eq_true rfl) ?_
                    refine r_if_eq C 187 dX11_nameNow_181 (by decide)  (fun h131 => ?_) (fun h131 => ?_)
                    · have hF := if_t h131 hF
                      refine r_aload_n C 0 0 dX11_nameNow_187 rfl rfl ?_
                      refine r_iconst (v := (4 : Int32)) C dX11_nameNow_188 rfl ?_
                      refine r_bipush (v := (102 : Int32)) C dX11_nameNow_189 rfl ?_
                      refine r_bipush (v := (105 : Int32)) C dX11_nameNow_191 rfl ?_
                      refine r_bipush (v := (108 : Int32)) C dX11_nameNow_193 rfl ?_
                      refine r_bipush (v := (109 : Int32)) C dX11_nameNow_195 rfl ?_
                      obtain ⟨r124, σ123, e125, hF⟩ := bd_e hF
                      refine r_callV_i (as := [vI (4 : Int32), vI (102 : Int32), vI (105 : Int32), vI (108 : Int32), vI (109 : Int32)]) (st := []) C dX11_nameNow_197 (s_X11_starts G l e125) rfl rfl rfl t_5_186 t_5_188 t_s_28 t_1_14 t_5_189 m_X11_starts ⟨Nat.le_of_ble_eq_true rfl, Nat.le_of_ble_eq_true rfl⟩ ⟨rfl, rfl⟩ ⟨Nat.zero_le _, Nat.zero_le _⟩ rfl (Nat.le_of_ble_eq_true rfl) ?_
                      refine r_if_eq C 208 dX11_nameNow_200 (by decide)  (fun h130 => ?_) (fun h130 => ?_)
                      · have hF := if_t h130 hF
                        refine r_aload_n C 0 0 dX11_nameNow_208 rfl rfl ?_
                        refine r_iconst (v := (4 : Int32)) C dX11_nameNow_209 rfl ?_
                        refine r_bipush (v := (114 : Int32)) C dX11_nameNow_210 rfl ?_
                        refine r_bipush (v := (111 : Int32)) C dX11_nameNow_212 rfl ?_
                        refine r_bipush (v := (108 : Int32)) C dX11_nameNow_214 rfl ?_
                        refine r_bipush (v := (108 : Int32)) C dX11_nameNow_216 rfl ?_
                        obtain ⟨r127, σ126, e128, hF⟩ := bd_e hF
                        refine r_callV_i (as := [vI (4 : Int32), vI (114 : Int32), vI (111 : Int32), vI (108 : Int32), vI (108 : Int32)]) (st := []) C dX11_nameNow_218 (s_X11_starts G l e128) rfl rfl rfl t_5_186 t_5_188 t_s_28 t_1_14 t_5_189 m_X11_starts ⟨Nat.le_of_ble_eq_true rfl, Nat.le_of_ble_eq_true rfl⟩ ⟨rfl, rfl⟩ ⟨Nat.zero_le _, Nat.zero_le _⟩ rfl (Nat.le_of_ble_eq_true rfl) ?_
                        refine r_if_eq C 229 dX11_nameNow_221 (by decide)  (fun h129 => ?_) (fun h129 => ?_)
                        · have hF := if_t h129 hF
                          refine r_bipush (v := (-4 : Int32)) C dX11_nameNow_229 rfl ?_
                          exact r_ireturn C dX11_nameNow_231 (rt_e hF)
                        · have hF := if_f h129 hF
                          refine r_bipush (v := (8 : Int32)) C dX11_nameNow_224 rfl ?_
                          refine r_goto C 231 dX11_nameNow_226 (by decide) ?_
                          exact r_ireturn C dX11_nameNow_231 (rt_e hF)
                      · have hF := if_f h130 hF
                        refine r_bipush (v := (7 : Int32)) C dX11_nameNow_203 rfl ?_
                        refine r_goto C 231 dX11_nameNow_205 (by decide) ?_
                        exact r_ireturn C dX11_nameNow_231 (rt_e hF)
                    · have hF := if_f h131 hF
                      refine r_bipush (v := (6 : Int32)) C dX11_nameNow_184 rfl ?_
                      exact r_ireturn C dX11_nameNow_186 (rt_e hF)
                  · have hF := if_t h148 hF
                    refine r_aload_n C 0 0 dX11_nameNow_150 rfl rfl ?_
                    refine r_aload_n C 0 0 dX11_nameNow_151 rfl rfl ?_
                    refine r_getI (kf := 10) C dX11_nameNow_152 rfl rfl f_X11 (by decide) t_5_68 rfl ?_
                    refine r_bipush (v := (6 : Int32)) C dX11_nameNow_155 rfl ?_
                    refine r_iadd C dX11_nameNow_157 ?_
                    obtain ⟨r133, σ132, e134, hF⟩ := bd_e hF
                    refine r_callV_i (as := [vI ((σ117.1 (40, 0, 0) 10) + (6 : Int32))]) (st := []) C dX11_nameNow_158 (s_X11_look G l e134) rfl rfl rfl t_5_166 t_5_168 t_s_24 t_1_14 t_5_169 m_X11_look ⟨Nat.le_of_ble_eq_true rfl, Nat.le_of_ble_eq_true rfl⟩ ⟨rfl, rfl⟩ ⟨Nat.zero_le _, Nat.zero_le _⟩ rfl (Nat.le_of_ble_eq_true rfl) ?_
                    refine r_bipush (v := (121 : Int32)) C dX11_nameNow_161 rfl ?_
                    refine r_icmp_ne C 168 dX11_nameNow_163 (by decide)  (fun h147 => ?_) (fun h147 => ?_)
                    · have hF := if_f h147 hF
                      refine r_aload_n C 0 0 dX11_nameNow_168 rfl rfl ?_
                      refine r_iconst (v := (4 : Int32)) C dX11_nameNow_169 rfl ?_
                      refine r_bipush (v := (104 : Int32)) C dX11_nameNow_170 rfl ?_
                      refine r_bipush (v := (105 : Int32)) C dX11_nameNow_172 rfl ?_
                      refine r_bipush (v := (115 : Int32)) C dX11_nameNow_174 rfl ?_
                      refine r_bipush (v := (115 : Int32)) C dX11_nameNow_176 rfl ?_
                      obtain ⟨r136, σ135, e137, hF⟩ := bd_e hF
                      refine r_callV_i (as := [vI (4 : Int32), vI (104 : Int32), vI (105 : Int32), vI (115 : Int32), vI (115 : Int32)]) (st := []) C dX11_nameNow_178 (s_X11_starts G l e137) rfl rfl rfl t_5_186 t_5_188 t_s_28 t_1_14 t_5_189 m_X11_starts ⟨Nat.le_of_ble_eq_true rfl, Nat.le_of_ble_eq_true rfl⟩ ⟨rfl, rfl⟩ ⟨Nat.zero_le _, Nat.zero_le _⟩ rfl (Nat.le_of_ble_eq_true rfl) ?_
                      refine r_if_eq C 187 dX11_nameNow_181 (by decide)  (fun h146 => ?_) (fun h146 => ?_)
                      · have hF := if_t h146 hF
                        refine r_aload_n C 0 0 dX11_nameNow_187 rfl rfl ?_
                        refine r_iconst (v := (4 : Int32)) C dX11_nameNow_188 rfl ?_
                        refine r_bipush (v := (102 : Int32)) C dX11_nameNow_189 rfl ?_
                        refine r_bipush (v := (105 : Int32)) C dX11_nameNow_191 rfl ?_
                        refine r_bipush (v := (108 : Int32)) C dX11_nameNow_193 rfl ?_
                        refine r_bipush (v := (109 : Int32)) C dX11_nameNow_195 rfl ?_
                        obtain ⟨r139, σ138, e140, hF⟩ := bd_e hF
                        refine r_callV_i (as := [vI (4 : Int32), vI (102 : Int32), vI (105 : Int32), vI (108 : Int32), vI (109 : Int32)]) (st := []) C dX11_nameNow_197 (s_X11_starts G l e140) rfl rfl rfl t_5_186 t_5_188 t_s_28 t_1_14 t_5_189 m_X11_starts ⟨Nat.le_of_ble_eq_true rfl, Nat.le_of_ble_eq_true rfl⟩ ⟨rfl, rfl⟩ ⟨Nat.zero_le _, Nat.zero_le _⟩ rfl (Nat.le_of_ble_eq_true rfl) ?_
                        refine r_if_eq C 208 dX11_nameNow_200 (by decide)  (fun h145 => ?_) (fun h145 => ?_)
                        · have hF := if_t h145 hF
                          refine r_aload_n C 0 0 dX11_nameNow_208 rfl rfl ?_
                          refine r_iconst (v := (4 : Int32)) C dX11_nameNow_209 rfl ?_
                          refine r_bipush (v := (114 : Int32)) C dX11_nameNow_210 rfl ?_
                          refine r_bipush (v := (111 : Int32)) C dX11_nameNow_212 rfl ?_
                          refine r_bipush (v := (108 : Int32)) C dX11_nameNow_214 rfl ?_
                          refine r_bipush (v := (108 : Int32)) C dX11_nameNow_216 rfl ?_
                          obtain ⟨r142, σ141, e143, hF⟩ := bd_e hF
                          refine r_callV_i (as := [vI (4 : Int32), vI (114 : Int32), vI (111 : Int32), vI (108 : Int32), vI (108 : Int32)]) (st := []) C dX11_nameNow_218 (s_X11_starts G l e143) rfl rfl rfl t_5_186 t_5_188 t_s_28 t_1_14 t_5_189 m_X11_starts ⟨Nat.le_of_ble_eq_true rfl, Nat.le_of_ble_eq_true rfl⟩ ⟨rfl, rfl⟩ ⟨Nat.zero_le _, Nat.zero_le _⟩ rfl (Nat.le_of_ble_eq_true rfl) ?_
                          refine r_if_eq C 229 dX11_nameNow_221 (by decide)  (fun h144 => ?_) (fun h144 => ?_)
                          · have hF := if_t h144 hF
                            refine r_bipush (v := (-4 : Int32)) C dX11_nameNow_229 rfl ?_
                            exact r_ireturn C dX11_nameNow_231 (rt_e hF)
                          · have hF := if_f h144 hF
                            refine r_bipush (v := (8 : Int32)) C dX11_nameNow_224 rfl ?_
                            refine r_goto C 231 dX11_nameNow_226 (by decide) ?_
                            exact r_ireturn C dX11_nameNow_231 (rt_e hF)
                        · have hF := if_f h145 hF
                          refine r_bipush (v := (7 : Int32)) C dX11_nameNow_203 rfl ?_
                          refine r_goto C 231 dX11_nameNow_205 (by decide) ?_
                          exact r_ireturn C dX11_nameNow_231 (rt_e hF)
                      · have hF := if_f h146 hF
                        refine r_bipush (v := (6 : Int32)) C dX11_nameNow_184 rfl ?_
                        exact r_ireturn C dX11_nameNow_186 (rt_e hF)
                    · have hF := if_t h147 hF
                      refine r_iconst (v := (5 : Int32)) C dX11_nameNow_166 rfl ?_
                      exact r_ireturn C dX11_nameNow_167 (rt_e hF)
            · have hF := if_f h151 hF
              refine r_iconst (v := (4 : Int32)) C dX11_nameNow_101 rfl ?_
              exact r_ireturn C dX11_nameNow_102 (rt_e hF)
          · have hF := if_t h152 hF
            refine r_iconst (v := (2 : Int32)) C dX11_nameNow_83 rfl ?_
            exact r_ireturn C dX11_nameNow_84 (rt_e hF)
      · have hF := if_f h154 hF
        refine r_iconst (v := (1 : Int32)) C dX11_nameNow_50 rfl ?_
        exact r_ireturn C dX11_nameNow_51 (rt_e hF)
    · have hF := if_f h155 hF
      refine r_iconst (v := (0 : Int32)) C dX11_nameNow_32 rfl ?_
      exact r_ireturn C dX11_nameNow_33 (rt_e hF)
  · have hF := if_f h156 hF
    refine r_bipush (v := (20 : Int32)) C dX11_nameNow_15 rfl ?_
    exact r_ireturn C dX11_nameNow_17 (rt_e hF)
