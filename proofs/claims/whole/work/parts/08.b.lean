def F_J1_canEncode_9a6ad (a0 : Int32) (σ : St) : Option (Int32 × St) :=
  (if a0 < 0 then some ((0 : Int32), σ) else (if (255 : Int32) < a0 then some ((0 : Int32), σ) else some ((1 : Int32), σ)))
set_option maxRecDepth 20000 in
set_option maxHeartbeats 4000000 in
theorem s_J1_canEncode_9a6ad (G : Gx) (l : Launch) {a0 : Int32} {σ σ' : St} {r : Int32} (hF : F_J1_canEncode_9a6ad a0 σ = some (r, σ')) : Sp G l yJ1_canEncode_9a6ad cJ1_canEncode_9a6ad 1 (some .boolean) (lvl 0) [vI a0] σ (va_Qi (fun a b => a = r ∧ b = σ') (Wd G) (AG G)) := by
  refine Sp_of (own := RJ1) (by decide) rfl (Nat.le_of_ble_eq_true rfl) ?_
  intro p e s m args below meth c C
  show Rt G p l e (lvl 0) s m args below meth c 0 0 (MQ below (va_Qi (fun a b => a = r ∧ b = σ') (Wd G) (AG G)) args s 0 0 (AG G)) 1 0 [(0, vI a0)] [] σ
  unfold F_J1_canEncode_9a6ad at hF
  refine r_iload_n C 0 0 dJ1_canEncode_9a6ad_0 rfl rfl ?_
  refine r_if_lt C 15 dJ1_canEncode_9a6ad_1 (by decide)  (fun h2 => ?_) (fun h2 => ?_)
  · have hF := if_t h2 hF
    refine r_iconst (v := (0 : Int32)) C dJ1_canEncode_9a6ad_15 rfl ?_
    exact r_zreturn C dJ1_canEncode_9a6ad_16 (nar_z (Or.inl rfl)) (rt_e hF)
  · have hF := if_f h2 hF
    refine r_iload_n C 0 0 dJ1_canEncode_9a6ad_4 rfl rfl ?_
    refine r_sipush (v := (255 : Int32)) C dJ1_canEncode_9a6ad_5 rfl ?_
    refine r_icmp_gt C 15 dJ1_canEncode_9a6ad_8 (by decide)  (fun h1 => ?_) (fun h1 => ?_)
    · have hF := if_t h1 hF
      refine r_iconst (v := (0 : Int32)) C dJ1_canEncode_9a6ad_15 rfl ?_
      exact r_zreturn C dJ1_canEncode_9a6ad_16 (nar_z (Or.inl rfl)) (rt_e hF)
    · have hF := if_f h1 hF
      refine r_iconst (v := (1 : Int32)) C dJ1_canEncode_9a6ad_11 rfl ?_
      refine r_goto C 16 dJ1_canEncode_9a6ad_12 (by decide) ?_
      exact r_zreturn C dJ1_canEncode_9a6ad_16 (nar_z (Or.inr rfl)) (rt_e hF)
def L_J1_indexOfChar_4cfef_t121_7 (q0 : Nat) (c3 : Int32) (c4 : Int32) : Nat → Int32 → St → Option (Int32 × St)
  | 0, _, _ => none
  | n + 1, v5, τ =>
  (if c3 ≤ v5 then some ((-1 : Int32), τ) else ck (decide (q0 < 11)) (ck (inb v5 (stLen.getD q0 0)) ((if ((stByt.getD q0 []).getD (v5.toNatClampNeg) 0) = c4 then some (v5, τ) else nam (v5 + (1 : Int32)) fun x4 => L_J1_indexOfChar_4cfef_t121_7 q0 c3 c4 n x4 τ))))
def F_J1_indexOfChar_4cfef_t121 (q0 : Nat) (a1 : Int32) (a2 : Int32) (a3 : Int32) (σ : St) : Option (Int32 × St) :=
  nam (a1.toInt8.toInt32) fun x1 => L_J1_indexOfChar_4cfef_t121_7 q0 a3 x1 FU a2 σ 
set_option maxRecDepth 20000 in
set_option maxHeartbeats 4000000 in
theorem l_J1_indexOfChar_4cfef_t121_7 {G : Gx} {p : Program} {l : Launch} {e : Env} {s : State} {m : MethodId} {args : Array Value} {below : List Frame} {meth : Method} {c : Code} (C : Cx G p s m args meth c (some .int) 6 RJ1 cJ1_indexOfChar_4cfef) (q0 : Nat) (c3 : Int32) (c4 : Int32) {σ' : St} {r : Int32} : ∀ (n : Nat) (v5 : Int32) (τ : St), L_J1_indexOfChar_4cfef_t121_7 q0 c3 c4 n v5 τ = some (r, σ') → Rt G p l e (lvl 0) s m args below meth c 0 0 (MQ below (va_Qi (fun a b => a = r ∧ b = σ') (Wd G) (AG G)) args s 0 0 (AG G)) 6 7 [(0, vR (121, q0, 0)), (3, vI c3), (4, vI c4), (5, vI v5)] [] τ := by
  intro n
  induction n with
  | zero => intro v5 τ hF; cases hF
  | succ n ih =>
    intro v5 τ hF
    unfold L_J1_indexOfChar_4cfef_t121_7 at hF
    refine r_iload C 3 dJ1_indexOfChar_4cfef_7 rfl ?_
    refine r_iload_n C 1 3 dJ1_indexOfChar_4cfef_9 rfl rfl ?_
    refine r_icmp_ge C 31 dJ1_indexOfChar_4cfef_10 (by decide)  (fun h6 => ?_) (fun h6 => ?_)
    · have hF := if_t h6 hF
      refine r_iconst (v := (-1 : Int32)) C dJ1_indexOfChar_4cfef_31 rfl ?_
      exact r_ireturn C dJ1_indexOfChar_4cfef_32 (rt_e hF)
    · have hF := if_f h6 hF
      refine r_aload_n C 0 0 dJ1_indexOfChar_4cfef_13 rfl rfl ?_
      refine r_iload C 3 dJ1_indexOfChar_4cfef_14 rfl ?_
      obtain ⟨h3, hF⟩ := ck_e hF
      obtain ⟨h2, hF⟩ := ck_e hF
      refine r_baloadS C (v5.toNatClampNeg) dJ1_indexOfChar_4cfef_16 (n11 h3) h2 rfl ?_
      refine r_iload C 2 dJ1_indexOfChar_4cfef_17 rfl ?_
      refine r_icmp_ne C 25 dJ1_indexOfChar_4cfef_19 (by decide)  (fun h5 => ?_) (fun h5 => ?_)
      · have hF := if_f h5 hF
        obtain ⟨x4, ex4, hF⟩ := nam_e hF
        refine r_iinc (v := x4) (ls2 := [(5, vI x4), (0, vR (121, q0, 0)), (3, vI c3), (4, vI c4)]) C 3 dJ1_indexOfChar_4cfef_25 rfl ex4.symm (by decide) rfl ?_
        refine r_goto C 7 dJ1_indexOfChar_4cfef_28 (by decide) ?_
        refine r_drop (ls2 := [(0, vR (121, q0, 0)), (3, vI c3), (4, vI c4), (5, vI x4)]) [1, 2, 3, 0] rfl ?_
        exact ih _ _ hF
      · have hF := if_t h5 hF
        refine r_iload C 3 dJ1_indexOfChar_4cfef_22 rfl ?_
        exact r_ireturn C dJ1_indexOfChar_4cfef_24 (rt_e hF)
set_option maxRecDepth 20000 in
set_option maxHeartbeats 4000000 in
theorem s_J1_indexOfChar_4cfef_t121 (G : Gx) (l : Launch) {q0 : Nat} {a1 : Int32} {a2 : Int32} {a3 : Int32} {σ σ' : St} {r : Int32} (hF : F_J1_indexOfChar_4cfef_t121 q0 a1 a2 a3 σ = some (r, σ')) : Sp G l yJ1_indexOfChar_4cfef cJ1_indexOfChar_4cfef 6 (some .int) (lvl 0) [vR (121, q0, 0), vI a1, vI a2, vI a3] σ (va_Qi (fun a b => a = r ∧ b = σ') (Wd G) (AG G)) := by
  refine Sp_of (own := RJ1) (by decide) rfl (Nat.le_of_ble_eq_true rfl) ?_
  intro p e s m args below meth c C
  show Rt G p l e (lvl 0) s m args below meth c 0 0 (MQ below (va_Qi (fun a b => a = r ∧ b = σ') (Wd G) (AG G)) args s 0 0 (AG G)) 6 0 [(0, vR (121, q0, 0)), (1, vI a1), (2, vI a2), (3, vI a3)] [] σ
  unfold F_J1_indexOfChar_4cfef_t121 at hF
  refine r_iload_n C 1 1 dJ1_indexOfChar_4cfef_0 rfl rfl ?_
  refine r_i2b C dJ1_indexOfChar_4cfef_1 ?_
  obtain ⟨x1, ex1, hF⟩ := nam_e hF
  refine r_topI ex1 ?_
  refine r_istore (ls2 := [(4, vI x1), (0, vR (121, q0, 0)), (1, vI a1), (2, vI a2), (3, vI a3)]) C dJ1_indexOfChar_4cfef_2 (by decide) rfl ?_
  refine r_iload_n C 3 2 dJ1_indexOfChar_4cfef_4 rfl rfl ?_
  refine r_istore (ls2 := [(5, vI a2), (4, vI x1), (0, vR (121, q0, 0)), (1, vI a1), (2, vI a2), (3, vI a3)]) C dJ1_indexOfChar_4cfef_5 (by decide) rfl ?_
  refine r_drop (ls2 := [(0, vR (121, q0, 0)), (3, vI a3), (4, vI x1), (5, vI a2)]) [2, 5, 1, 0] rfl ?_
  refine l_J1_indexOfChar_4cfef_t121_7 C q0 a3 x1  _ _ _ hF
def F_J1_indexOf_4cfef_t121 (q0 : Nat) (a1 : Int32) (a2 : Int32) (a3 : Int32) (σ : St) : Option (Int32 × St) :=
  bd (F_J1_canEncode_9a6ad a1 σ) fun r2 σ1 => (if r2 = 0 then some ((-1 : Int32), σ1) else nam (if a2 < (0 : Int32) then (0 : Int32) else a2) fun x4 => ck (decide (q0 < 11)) (nam (if (Int32.ofNat (stLen.getD q0 0)) < a3 then (Int32.ofNat (stLen.getD q0 0)) else a3) fun x6 => (if x4 < x6 then bd (F_J1_indexOfChar_4cfef_t121 q0 a1 x4 x6 σ1) fun r8 σ7 => some (r8, σ7) else some ((-1 : Int32), σ1))))
set_option maxRecDepth 20000 in
set_option maxHeartbeats 4000000 in
theorem s_J1_indexOf_4cfef_t121 (G : Gx) (l : Launch) {q0 : Nat} {a1 : Int32} {a2 : Int32} {a3 : Int32} {σ σ' : St} {r : Int32} (hF : F_J1_indexOf_4cfef_t121 q0 a1 a2 a3 σ = some (r, σ')) : Sp G l yJ1_indexOf_4cfef cJ1_indexOf_4cfef 4 (some .int) (lvl 1) [vR (121, q0, 0), vI a1, vI a2, vI a3] σ (va_Qi (fun a b => a = r ∧ b = σ') (Wd G) (AG G)) := by
  refine Sp_of (own := RJ1) (by decide) rfl (Nat.le_of_ble_eq_true rfl) ?_
  intro p e s m args below meth c C
  show Rt G p l e (lvl 1) s m args below meth c 0 0 (MQ below (va_Qi (fun a b => a = r ∧ b = σ') (Wd G) (AG G)) args s 0 0 (AG G)) 4 0 [(0, vR (121, q0, 0)), (1, vI a1), (2, vI a2), (3, vI a3)] [] σ
  unfold F_J1_indexOf_4cfef_t121 at hF
  refine r_iload_n C 1 1 dJ1_indexOf_4cfef_0 rfl rfl ?_
  obtain ⟨r2, σ1, e3, hF⟩ := bd_e hF
  refine r_callS_i (as := [vI a1]) (st := []) C dJ1_indexOf_4cfef_1 (s_J1_canEncode_9a6ad G l e3) t_3_10 t_3_11 t_1_17 t_3_12 m_J1_canEncode_9a6ad ⟨Nat.le_of_ble_eq_true rfl, Nat.le_of_ble_eq_true rfl⟩ ⟨rfl, rfl⟩ ⟨Nat.zero_le _, Nat.zero_le _⟩ rfl (Nat.le_of_ble_eq_true rfl) ?_
  refine r_if_ne C 9 dJ1_indexOf_4cfef_4 (by decide)  (fun h11 => ?_) (fun h11 => ?_)
  · have hF := if_f h11 hF
    refine r_iload_n C 2 2 dJ1_indexOf_4cfef_9 rfl rfl ?_
    refine r_iconst (v := (0 : Int32)) C dJ1_indexOf_4cfef_10 rfl ?_
    refine r_max C dJ1_indexOf_4cfef_11 t_3_13 t_3_14 t_1_15 t_3_15 ⟨Nat.le_of_ble_eq_true rfl, Nat.le_of_ble_eq_true rfl⟩ ⟨Nat.zero_le _, Nat.zero_le _⟩ ?_
    obtain ⟨x4, ex4, hF⟩ := nam_e hF
    refine r_topI ex4 ?_
    refine r_istore_n (ls2 := [(2, vI x4), (0, vR (121, q0, 0)), (1, vI a1), (3, vI a3)]) C dJ1_indexOf_4cfef_14 2 rfl (by decide) rfl ?_
    refine r_iload_n C 3 3 dJ1_indexOf_4cfef_15 rfl rfl ?_
    refine r_aload_n C 1 0 dJ1_indexOf_4cfef_16 rfl rfl ?_
    obtain ⟨h5, hF⟩ := ck_e hF
    refine r_alenS C dJ1_indexOf_4cfef_17 (n11 h5) ?_
    refine r_min C dJ1_indexOf_4cfef_18 t_3_16 t_2_157 t_1_15 t_2_158 ⟨Nat.le_of_ble_eq_true rfl, Nat.le_of_ble_eq_true rfl⟩ ⟨Nat.zero_le _, Nat.zero_le _⟩ ?_
    obtain ⟨x6, ex6, hF⟩ := nam_e hF
    refine r_topI ex6 ?_
    refine r_istore_n (ls2 := [(3, vI x6), (2, vI x4), (0, vR (121, q0, 0)), (1, vI a1)]) C dJ1_indexOf_4cfef_21 3 rfl (by decide) rfl ?_
    refine r_iload_n C 1 2 dJ1_indexOf_4cfef_22 rfl rfl ?_
    refine r_iload_n C 0 3 dJ1_indexOf_4cfef_23 rfl rfl ?_
    refine r_icmp_lt C 29 dJ1_indexOf_4cfef_24 (by decide)  (fun h10 => ?_) (fun h10 => ?_)
    · have hF := if_t h10 hF
      refine r_aload_n C 2 0 dJ1_indexOf_4cfef_29 rfl rfl ?_
      refine r_iload_n C 3 1 dJ1_indexOf_4cfef_30 rfl rfl ?_
      refine r_iload_n C 1 2 dJ1_indexOf_4cfef_31 rfl rfl ?_
      refine r_iload_n C 0 3 dJ1_indexOf_4cfef_32 rfl rfl ?_
      obtain ⟨r8, σ7, e9, hF⟩ := bd_e hF
      refine r_callS_i (as := [vR (121, q0, 0), vI a1, vI x4, vI x6]) (st := []) C dJ1_indexOf_4cfef_33 (s_J1_indexOfChar_4cfef_t121 G l e9) t_3_17 t_3_18 t_1_17 t_3_19 m_J1_indexOfChar_4cfef ⟨Nat.le_of_ble_eq_true rfl, Nat.le_of_ble_eq_true rfl⟩ ⟨rfl, rfl⟩ ⟨Nat.zero_le _, Nat.zero_le _⟩ rfl (Nat.le_of_ble_eq_true rfl) ?_
      exact r_ireturn C dJ1_indexOf_4cfef_36 (rt_e hF)
    · have hF := if_f h10 hF
      refine r_iconst (v := (-1 : Int32)) C dJ1_indexOf_4cfef_27 rfl ?_
      exact r_ireturn C dJ1_indexOf_4cfef_28 (rt_e hF)
  · have hF := if_t h11 hF
    refine r_iconst (v := (-1 : Int32)) C dJ1_indexOf_4cfef_7 rfl ?_
    exact r_ireturn C dJ1_indexOf_4cfef_8 (rt_e hF)
def F_J0_indexOf_7cf53 (q0 : Nat) (a1 : Int32) (a2 : Int32) (σ : St) : Option (Int32 × St) :=
  ck (decide (q0 < 11)) (bd (F_J0_isLatin1_aae02 q0 σ) fun r3 σ1 => (if r3 = 0 then ck (decide (q0 < 11)) (ck (decide (q0 < 11)) (bd (F_J0_length_8abf5 q0 σ1) fun r8 σ6 => none)) else ck (decide (q0 < 11)) (ck (decide (q0 < 11)) (bd (F_J0_length_8abf5 q0 σ1) fun r13 σ11 => bd (F_J1_indexOf_4cfef_t121 q0 a1 a2 r13 σ11) fun r16 σ15 => some (r16, σ15)))))
set_option maxRecDepth 20000 in
set_option maxHeartbeats 4000000 in
theorem s_J0_indexOf_7cf53 (G : Gx) (l : Launch) {q0 : Nat} {a1 : Int32} {a2 : Int32} {σ σ' : St} {r : Int32} (hF : F_J0_indexOf_7cf53 q0 a1 a2 σ = some (r, σ')) : Sp G l yJ0_indexOf_7cf53 cJ0_indexOf_7cf53 3 (some .int) (lvl 2) [vR (120, q0, 0), vI a1, vI a2] σ (va_Qi (fun a b => a = r ∧ b = σ') (Wd G) (AG G)) := by
  refine Sp_of (own := RJ0) (by decide) rfl (Nat.le_of_ble_eq_true rfl) ?_
  intro p e s m args below meth c C
  show Rt G p l e (lvl 2) s m args below meth c 0 0 (MQ below (va_Qi (fun a b => a = r ∧ b = σ') (Wd G) (AG G)) args s 0 0 (AG G)) 3 0 [(0, vR (120, q0, 0)), (1, vI a1), (2, vI a2)] [] σ
  unfold F_J0_indexOf_7cf53 at hF
  refine r_aload_n C 0 0 dJ0_indexOf_7cf53_0 rfl rfl ?_
  obtain ⟨h2, hF⟩ := ck_e hF
  obtain ⟨r3, σ1, e4, hF⟩ := bd_e hF
  refine r_callX_i (as := []) (st := []) C dJ0_indexOf_7cf53_1 (s_J0_isLatin1_aae02 G l e4) (n11 h2) t_2_195 t_2_196 t_2_197 t_1_16 t_2_198 m_J0_isLatin1_aae02 ⟨Nat.le_of_ble_eq_true rfl, Nat.le_of_ble_eq_true rfl⟩ ⟨rfl, rfl⟩ ⟨Nat.zero_le _, Nat.zero_le _⟩ rfl (Nat.le_of_ble_eq_true rfl) ?_
  refine r_if_eq C 23 dJ0_indexOf_7cf53_4 (by decide)  (fun h18 => ?_) (fun h18 => ?_)
  · have hF := if_t h18 hF
    refine r_aload_n C 0 0 dJ0_indexOf_7cf53_23 rfl rfl ?_
    obtain ⟨h5, hF⟩ := ck_e hF
    refine r_strV C dJ0_indexOf_7cf53_24 t_7_17 (n11 h5) ?_
    refine r_iload_n C 1 1 dJ0_indexOf_7cf53_27 rfl rfl ?_
    refine r_iload_n C 2 2 dJ0_indexOf_7cf53_28 rfl rfl ?_
    refine r_aload_n C 0 0 dJ0_indexOf_7cf53_29 rfl rfl ?_
    obtain ⟨h7, hF⟩ := ck_e hF
    obtain ⟨r8, σ6, e9, hF⟩ := bd_e hF
    refine r_callX_i (as := []) (st := [vI a2, vI a1, vR (121, q0, 0)]) C dJ0_indexOf_7cf53_30 (s_J0_length_8abf5 G l e9) (n11 h7) t_3_6 t_2_182 t_2_183 t_1_16 t_2_184 m_J0_length_8abf5 ⟨Nat.le_of_ble_eq_true rfl, Nat.le_of_ble_eq_true rfl⟩ ⟨rfl, rfl⟩ ⟨Nat.zero_le _, Nat.zero_le _⟩ rfl (Nat.le_of_ble_eq_true rfl) ?_
    cases hF
  · have hF := if_f h18 hF
    refine r_aload_n C 0 0 dJ0_indexOf_7cf53_7 rfl rfl ?_
    obtain ⟨h10, hF⟩ := ck_e hF
    refine r_strV C dJ0_indexOf_7cf53_8 t_7_17 (n11 h10) ?_
    refine r_iload_n C 1 1 dJ0_indexOf_7cf53_11 rfl rfl ?_
    refine r_iload_n C 2 2 dJ0_indexOf_7cf53_12 rfl rfl ?_
    refine r_aload_n C 0 0 dJ0_indexOf_7cf53_13 rfl rfl ?_
    obtain ⟨h12, hF⟩ := ck_e hF
    obtain ⟨r13, σ11, e14, hF⟩ := bd_e hF
    refine r_callX_i (as := []) (st := [vI a2, vI a1, vR (121, q0, 0)]) C dJ0_indexOf_7cf53_14 (s_J0_length_8abf5 G l e14) (n11 h12) t_3_6 t_2_182 t_2_183 t_1_16 t_2_184 m_J0_length_8abf5 ⟨Nat.le_of_ble_eq_true rfl, Nat.le_of_ble_eq_true rfl⟩ ⟨rfl, rfl⟩ ⟨Nat.zero_le _, Nat.zero_le _⟩ rfl (Nat.le_of_ble_eq_true rfl) ?_
    obtain ⟨r16, σ15, e17, hF⟩ := bd_e hF
    refine r_callS_i (as := [vR (121, q0, 0), vI a1, vI a2, vI r13]) (st := []) C dJ0_indexOf_7cf53_17 (s_J1_indexOf_4cfef_t121 G l e17) t_3_7 t_3_8 t_1_17 t_3_9 m_J1_indexOf_4cfef ⟨Nat.le_of_ble_eq_true rfl, Nat.le_of_ble_eq_true rfl⟩ ⟨rfl, rfl⟩ ⟨Nat.zero_le _, Nat.zero_le _⟩ rfl (Nat.le_of_ble_eq_true rfl) ?_
    refine r_goto C 36 dJ0_indexOf_7cf53_20 (by decide) ?_
    exact r_ireturn C dJ0_indexOf_7cf53_36 (rt_e hF)
def F_J0_indexOf_0f7a4 (q0 : Nat) (a1 : Int32) (σ : St) : Option (Int32 × St) :=
  ck (decide (q0 < 11)) (bd (F_J0_indexOf_7cf53 q0 a1 (0 : Int32) σ) fun r3 σ1 => some (r3, σ1))
set_option maxRecDepth 20000 in
set_option maxHeartbeats 4000000 in
theorem s_J0_indexOf_0f7a4 (G : Gx) (l : Launch) {q0 : Nat} {a1 : Int32} {σ σ' : St} {r : Int32} (hF : F_J0_indexOf_0f7a4 q0 a1 σ = some (r, σ')) : Sp G l yJ0_indexOf_0f7a4 cJ0_indexOf_0f7a4 2 (some .int) (lvl 3) [vR (120, q0, 0), vI a1] σ (va_Qi (fun a b => a = r ∧ b = σ') (Wd G) (AG G)) := by
  refine Sp_of (own := RJ0) (by decide) rfl (Nat.le_of_ble_eq_true rfl) ?_
  intro p e s m args below meth c C
  show Rt G p l e (lvl 3) s m args below meth c 0 0 (MQ below (va_Qi (fun a b => a = r ∧ b = σ') (Wd G) (AG G)) args s 0 0 (AG G)) 2 0 [(0, vR (120, q0, 0)), (1, vI a1)] [] σ
  unfold F_J0_indexOf_0f7a4 at hF
  refine r_aload_n C 0 0 dJ0_indexOf_0f7a4_0 rfl rfl ?_
  refine r_iload_n C 1 1 dJ0_indexOf_0f7a4_1 rfl rfl ?_
  refine r_iconst (v := (0 : Int32)) C dJ0_indexOf_0f7a4_2 rfl ?_
  obtain ⟨h2, hF⟩ := ck_e hF
  obtain ⟨r3, σ1, e4, hF⟩ := bd_e hF
  refine r_callX_i (as := [vI a1, vI (0 : Int32)]) (st := []) C dJ0_indexOf_0f7a4_3 (s_J0_indexOf_7cf53 G l e4) (n11 h2) t_3_2 t_3_3 t_3_4 t_1_16 t_3_5 m_J0_indexOf_7cf53 ⟨Nat.le_of_ble_eq_true rfl, Nat.le_of_ble_eq_true rfl⟩ ⟨rfl, rfl⟩ ⟨Nat.zero_le _, Nat.zero_le _⟩ rfl (Nat.le_of_ble_eq_true rfl) ?_
  exact r_ireturn C dJ0_indexOf_0f7a4_6 (rt_e hF)
def L_X8_readRow_57  : Nat → Int32 → St → (St → Option (Unit × St)) → (St → Option (Unit × St)) → Option (Unit × St)
  | 0, _, _, _, _ => none
  | n + 1, v1, τ, kx84, kx115 =>
  (if (12 : Int32) ≤ v1 then kx115  τ else bd (F_X8_byteAt ((τ.1 (2, 0, 0) 8) + v1) τ) fun r6 σ5 => bd (F_J0_indexOf_0f7a4 1 ((r6.toUInt32 % 65536).toInt32) σ5) fun r9 σ8 => (if 0 ≤ r9 then ck (inb (((σ8.1 (2, 0, 0) 6) * (12 : Int32)) + v1) 96) (nam (uI σ8 (5, 0, 0) ((((σ8.1 (2, 0, 0) 6) * (12 : Int32)) + v1).toNatClampNeg) r9) fun σ12 => nam (v1 + (1 : Int32)) fun x13 => L_X8_readRow_57 n x13 σ12 kx84 kx115) else kx84  σ8))
def F_X8_readRow  (σ : St) : Option (Unit × St) :=
  nam (fun  (σ2 : St) => bd (F_X8_take (1 : Int32) σ2) fun _ σ3 => (if (σ3.1 (2, 0, 0) 10) = 0 then (if ((σ3.1 (2, 0, 0) 5) - (σ3.1 (2, 0, 0) 8)) = (12 : Int32) then L_X8_readRow_57  FU (0 : Int32) σ3 (fun  (σ16 : St) => bd (F_X8_refuse (3 : Int32) (σ16.1 (2, 0, 0) 8) σ16) fun _ σ17 => some ((), σ17)) (fun  (σ19 : St) => nam (uI σ19 (2, 0, 0) 6 ((σ19.1 (2, 0, 0) 6) + (1 : Int32))) fun σ20 => some ((), σ20)) else bd (F_X8_refuse (3 : Int32) (σ3.1 (2, 0, 0) 8) σ3) fun _ σ21 => some ((), σ21)) else some ((), σ3))) fun k1 => (if (σ.1 (2, 0, 0) 6) < (8 : Int32) then k1  σ else bd (F_X8_refuse (5 : Int32) (σ.1 (2, 0, 0) 8) σ) fun _ σ25 => k1  σ25)
set_option maxRecDepth 20000 in
set_option maxHeartbeats 4000000 in
theorem l_X8_readRow_57 {G : Gx} {p : Program} {l : Launch} {e : Env} {s : State} {m : MethodId} {args : Array Value} {below : List Frame} {meth : Method} {c : Code} (C : Cx G p s m args meth c none 3 RX8 cX8_readRow)  {σ' : St}  (kx84 : St → Option (Unit × St)) (hkx84 : ∀  (τ : St), kx84  τ = some ((), σ') → Rt G p l e (lvl 4) s m args below meth c 0 0 (MQ below (va_Qv (fun b => b = σ') (Wd G) (AG G)) args s 0 0 (AG G)) 3 84 [(0, vR (2, 0, 0))] [] τ) (kx115 : St → Option (Unit × St)) (hkx115 : ∀  (τ : St), kx115  τ = some ((), σ') → Rt G p l e (lvl 4) s m args below meth c 0 0 (MQ below (va_Qv (fun b => b = σ') (Wd G) (AG G)) args s 0 0 (AG G)) 3 115 [(0, vR (2, 0, 0))] [] τ) : ∀ (n : Nat) (v1 : Int32) (τ : St), L_X8_readRow_57  n v1 τ kx84 kx115 = some ((), σ') → Rt G p l e (lvl 4) s m args below meth c 0 0 (MQ below (va_Qv (fun b => b = σ') (Wd G) (AG G)) args s 0 0 (AG G)) 3 57 [(0, vR (2, 0, 0)), (1, vI v1)] [] τ := by
  intro n
  induction n with
  | zero => intro v1 τ hF; cases hF
  | succ n ih =>
    intro v1 τ hF
    unfold L_X8_readRow_57 at hF
    refine r_iload_n C 1 1 dX8_readRow_57 rfl rfl ?_
    refine r_bipush (v := (12 : Int32)) C dX8_readRow_58 rfl ?_
    refine r_icmp_ge C 115 dX8_readRow_60 (by decide)  (fun h15 => ?_) (fun h15 => ?_)
    · have hF := if_t h15 hF
      refine r_drop (ls2 := [(0, vR (2, 0, 0))]) [0] rfl ?_
      exact hkx115 _ hF
    · have hF := if_f h15 hF
      refine r_ldcS C 1 (by decide) dX8_readRow_63 ?_
      refine r_aload_n C 0 0 dX8_readRow_65 rfl rfl ?_
      refine r_aload_n C 0 0 dX8_readRow_66 rfl rfl ?_
      refine r_getI (kf := 8) C dX8_readRow_67 rfl rfl f_X8 (by decide) t_1_67 rfl ?_
      refine r_iload_n C 1 1 dX8_readRow_70 rfl rfl ?_
      refine r_iadd C dX8_readRow_71 ?_
      obtain ⟨r6, σ5, e7, hF⟩ := bd_e hF
      refine r_callV_i (as := [vI ((τ.1 (2, 0, 0) 8) + v1)]) (st := [vR (120, 1, 0)]) C dX8_readRow_72 (s_X8_byteAt G l e7) rfl rfl rfl t_2_165 t_2_167 t_s_2 t_1_2 t_2_168 m_X8_byteAt ⟨Nat.le_of_ble_eq_true rfl, Nat.le_of_ble_eq_true rfl⟩ ⟨rfl, rfl⟩ ⟨Nat.zero_le _, Nat.zero_le _⟩ rfl (Nat.le_of_ble_eq_true rfl) ?_
      refine r_i2c C dX8_readRow_75 ?_
      obtain ⟨r9, σ8, e10, hF⟩ := bd_e hF
      refine r_callX_i (as := [vI ((r6.toUInt32 % 65536).toInt32)]) (st := []) C dX8_readRow_76 (s_J0_indexOf_0f7a4 G l e10) (by decide) t_2_238 t_2_239 t_3_0 t_1_16 t_3_1 m_J0_indexOf_0f7a4 ⟨Nat.le_of_ble_eq_true rfl, Nat.le_of_ble_eq_true rfl⟩ ⟨rfl, rfl⟩ ⟨Nat.zero_le _, Nat.zero_le _⟩ rfl (Nat.le_of_ble_eq_true rfl) ?_
      refine r_istore_n (ls2 := [(2, vI r9), (0, vR (2, 0, 0)), (1, vI v1)]) C dX8_readRow_79 2 rfl (by decide) rfl ?_
      refine r_iload_n C 0 2 dX8_readRow_80 rfl rfl ?_
      refine r_if_ge C 94 dX8_readRow_81 (by decide)  (fun h14 => ?_) (fun h14 => ?_)
      · have hF := if_t h14 hF
        refine r_aload_n C 1 0 dX8_readRow_94 rfl rfl ?_
        refine r_getR (kf := 2) (d2 := (5, 0, 0)) C dX8_readRow_95 rfl rfl f_X8 (by decide) t_1_60 rfl rfl ?_
        refine r_aload_n C 1 0 dX8_readRow_98 rfl rfl ?_
        refine r_getI (kf := 6) C dX8_readRow_99 rfl rfl f_X8 (by decide) t_1_65 rfl ?_
        refine r_bipush (v := (12 : Int32)) C dX8_readRow_102 rfl ?_
        refine r_imul C dX8_readRow_104 ?_
        refine r_iload_n C 2 1 dX8_readRow_105 rfl rfl ?_
        refine r_iadd C dX8_readRow_106 ?_
        refine r_iload_n C 0 2 dX8_readRow_107 rfl rfl ?_
        obtain ⟨h11, hF⟩ := ck_e hF
        obtain ⟨σ12, eσ12, hF⟩ := nam_e hF
        refine r_iastore C ((((σ8.1 (2, 0, 0) 6) * (12 : Int32)) + v1).toNatClampNeg) dX8_readRow_108 rfl h11 rfl eσ12 ?_
        obtain ⟨x13, ex13, hF⟩ := nam_e hF
        refine r_iinc (v := x13) (ls2 := [(1, vI x13), (2, vI r9), (0, vR (2, 0, 0))]) C 2 dX8_readRow_109 rfl ex13.symm (by decide) rfl ?_
        refine r_goto C 57 dX8_readRow_112 (by decide) ?_
        refine r_drop (ls2 := [(0, vR (2, 0, 0)), (1, vI x13)]) [2, 0] rfl ?_
        exact ih _ _ hF
      · have hF := if_f h14 hF
        refine r_drop (ls2 := [(0, vR (2, 0, 0))]) [1] rfl ?_
        exact hkx84 _ hF
set_option maxRecDepth 20000 in
set_option maxHeartbeats 4000000 in
theorem s_X8_readRow (G : Gx) (l : Launch)  {σ σ' : St}  (hF : F_X8_readRow  σ = some ((), σ')) : Sp G l yX8_readRow cX8_readRow 3 none (lvl 4) [vR (2, 0, 0)] σ (va_Qv (fun b => b = σ') (Wd G) (AG G)) := by
  refine Sp_of (own := RX8) (by decide) rfl (Nat.le_of_ble_eq_true rfl) ?_
  intro p e s m args below meth c C
  show Rt G p l e (lvl 4) s m args below meth c 0 0 (MQ below (va_Qv (fun b => b = σ') (Wd G) (AG G)) args s 0 0 (AG G)) 3 0 [(0, vR (2, 0, 0))] [] σ
  unfold F_X8_readRow at hF
  refine r_aload_n C 0 0 dX8_readRow_0 rfl rfl ?_
  refine r_getI (kf := 6) C dX8_readRow_1 rfl rfl f_X8 (by decide) t_1_65 rfl ?_
  refine r_bipush (v := (8 : Int32)) C dX8_readRow_4 rfl ?_
  obtain ⟨k1, ek1, hF⟩ := nam_e hF
  have hk1 : ∀  (σ2 : St), k1  σ2 = some ((), σ') → Rt G p l e (lvl 4) s m args below meth c 0 0 (MQ below (va_Qv (fun b => b = σ') (Wd G) (AG G)) args s 0 0 (AG G)) 3 18 [(0, vR (2, 0, 0))] [] σ2 := by
    intro  σ2 hF
    subst ek1
    refine r_aload_n C 0 0 dX8_readRow_18 rfl rfl ?_
    refine r_iconst (v := (1 : Int32)) C dX8_readRow_19 rfl ?_
    obtain ⟨⟨⟩, σ3, e4, hF⟩ := bd_e hF
    refine r_callV_v (as := [vI (1 : Int32)]) (st := []) C dX8_readRow_20 (s_X8_take G l e4) rfl rfl rfl t_2_233 t_2_235 t_s_6 t_1_2 t_2_236 m_X8_take ⟨Nat.le_of_ble_eq_true rfl, Nat.le_of_ble_eq_true rfl⟩ ⟨rfl, rfl⟩ ⟨Nat.zero_le _, Nat.zero_le _⟩ rfl (Nat.le_of_ble_eq_true rfl) ?_
    refine r_aload_n C 0 0 dX8_readRow_23 rfl rfl ?_
    refine r_getI (kf := 10) C dX8_readRow_24 rfl rfl f_X8 (by decide) t_1_70 rfl ?_
    refine r_if_eq C 31 dX8_readRow_27 (by decide)  (fun h24 => ?_) (fun h24 => ?_)
    · have hF := if_t h24 hF
      refine r_aload_n C 0 0 dX8_readRow_31 rfl rfl ?_
      refine r_getI (kf := 5) C dX8_readRow_32 rfl rfl f_X8 (by decide) t_1_64 rfl ?_
      refine r_aload_n C 0 0 dX8_readRow_35 rfl rfl ?_
      refine r_getI (kf := 8) C dX8_readRow_36 rfl rfl f_X8 (by decide) t_1_67 rfl ?_
      refine r_isub C dX8_readRow_39 ?_
      refine r_bipush (v := (12 : Int32)) C dX8_readRow_40 rfl ?_
      refine r_icmp_eq C 55 dX8_readRow_42 (by decide)  (fun h23 => ?_) (fun h23 => ?_)
      · have hF := if_t h23 hF
        refine r_iconst (v := (0 : Int32)) C dX8_readRow_55 rfl ?_
        refine r_istore_n (ls2 := [(1, vI (0 : Int32)), (0, vR (2, 0, 0))]) C dX8_readRow_56 1 rfl (by decide) rfl ?_
        refine r_drop (ls2 := [(0, vR (2, 0, 0)), (1, vI (0 : Int32))]) [1, 0] rfl ?_
        refine l_X8_readRow_57 C  _ ?_ _ ?_ _ _ _ hF
        · intro  σ16 hF
          refine r_aload_n C 0 0 dX8_readRow_84 rfl rfl ?_
          refine r_iconst (v := (3 : Int32)) C dX8_readRow_85 rfl ?_
          refine r_aload_n C 0 0 dX8_readRow_86 rfl rfl ?_
          refine r_getI (kf := 8) C dX8_readRow_87 rfl rfl f_X8 (by decide) t_1_67 rfl ?_
          obtain ⟨⟨⟩, σ17, e18, hF⟩ := bd_e hF
          refine r_callV_v (as := [vI (3 : Int32), vI (σ16.1 (2, 0, 0) 8)]) (st := []) C dX8_readRow_90 (s_X8_refuse G l e18) rfl rfl rfl t_2_172 t_2_174 t_s_3 t_1_2 t_2_175 m_X8_refuse ⟨Nat.le_of_ble_eq_true rfl, Nat.le_of_ble_eq_true rfl⟩ ⟨rfl, rfl⟩ ⟨Nat.zero_le _, Nat.zero_le _⟩ rfl (Nat.le_of_ble_eq_true rfl) ?_
          exact r_return C dX8_readRow_93 (rv_e hF)
        · intro  σ19 hF
          refine r_aload_n C 0 0 dX8_readRow_115 rfl rfl ?_
          refine r_dup_r C dX8_readRow_116 ?_
          refine r_getI (kf := 6) C dX8_readRow_117 rfl rfl f_X8 (by decide) t_1_65 rfl ?_
          refine r_iconst (v := (1 : Int32)) C dX8_readRow_120 rfl ?_
          refine r_iadd C dX8_readRow_121 ?_
          obtain ⟨σ20, eσ20, hF⟩ := nam_e hF
          refine r_put (kf := 6) (ty0 := tyX8) C dX8_readRow_122 rfl rfl f_X8 tyX8_ok nmX8 (by decide) t_1_65 rfl rfl rfl rfl eσ20 ?_
          exact r_return C dX8_readRow_125 (rv_e hF)
      · have hF := if_f h23 hF
        refine r_aload_n C 0 0 dX8_readRow_45 rfl rfl ?_
        refine r_iconst (v := (3 : Int32)) C dX8_readRow_46 rfl ?_
        refine r_aload_n C 0 0 dX8_readRow_47 rfl rfl ?_
        refine r_getI (kf := 8) C dX8_readRow_48 rfl rfl f_X8 (by decide) t_1_67 rfl ?_
        obtain ⟨⟨⟩, σ21, e22, hF⟩ := bd_e hF
        refine r_callV_v (as := [vI (3 : Int32), vI (σ3.1 (2, 0, 0) 8)]) (st := []) C dX8_readRow_51 (s_X8_refuse G l e22) rfl rfl rfl t_2_172 t_2_174 t_s_3 t_1_2 t_2_175 m_X8_refuse ⟨Nat.le_of_ble_eq_true rfl, Nat.le_of_ble_eq_true rfl⟩ ⟨rfl, rfl⟩ ⟨Nat.zero_le _, Nat.zero_le _⟩ rfl (Nat.le_of_ble_eq_true rfl) ?_
        exact r_return C dX8_readRow_54 (rv_e hF)
    · have hF := if_f h24 hF
      exact r_return C dX8_readRow_30 (rv_e hF)
  refine r_icmp_lt C 18 dX8_readRow_6 (by decide)  (fun h27 => ?_) (fun h27 => ?_)
  · have hF := if_t h27 hF
    exact hk1 _ hF
  · have hF := if_f h27 hF
    refine r_aload_n C 0 0 dX8_readRow_9 rfl rfl ?_
    refine r_iconst (v := (5 : Int32)) C dX8_readRow_10 rfl ?_
    refine r_aload_n C 0 0 dX8_readRow_11 rfl rfl ?_
    refine r_getI (kf := 8) C dX8_readRow_12 rfl rfl f_X8 (by decide) t_1_67 rfl ?_
    obtain ⟨⟨⟩, σ25, e26, hF⟩ := bd_e hF
    refine r_callV_v (as := [vI (5 : Int32), vI (σ.1 (2, 0, 0) 8)]) (st := []) C dX8_readRow_15 (s_X8_refuse G l e26) rfl rfl rfl t_2_172 t_2_174 t_s_3 t_1_2 t_2_175 m_X8_refuse ⟨Nat.le_of_ble_eq_true rfl, Nat.le_of_ble_eq_true rfl⟩ ⟨rfl, rfl⟩ ⟨Nat.zero_le _, Nat.zero_le _⟩ rfl (Nat.le_of_ble_eq_true rfl) ?_
    exact hk1 _ hF
def L_X8_readAll_7  : Nat → Int32 → St → (St → Option (Unit × St)) → (St → Option (Unit × St)) → Option (Unit × St)
  | 0, _, _, _, _ => none
  | n + 1, v2, τ, kx40, kx88 =>
  (if (τ.1 (2, 0, 0) 4) < v2 then kx88  τ else (if (τ.1 (2, 0, 0) 10) = 0 then bd (F_X8_readToken  τ) fun _ σ3 => (if (σ3.1 (2, 0, 0) 10) = 0 then (if (σ3.1 (2, 0, 0) 7) = 0 then kx40  σ3 else bd (F_X8_isName 0 σ3) fun r6 σ5 => nam (fun  (σ9 : St) => bd (F_X8_take (3 : Int32) σ9) fun _ σ10 => nam (uI σ10 (2, 0, 0) 9 ((σ10.1 (2, 0, 0) 9) + (1 : Int32))) fun σ12 => nam (v2 + (1 : Int32)) fun x13 => L_X8_readAll_7 n x13 σ12 kx40 kx88) fun k8 => (if r6 = 0 then bd (F_X8_ruleNamed  σ5) fun r15 σ14 => bd (F_X8_readRule r15 σ14) fun _ σ17 => k8  σ17 else bd (F_X8_readRow  σ5) fun _ σ19 => k8  σ19)) else kx88  σ3) else kx88  τ))
def F_X8_readAll (a1 : Int32) (σ : St) : Option (Unit × St) :=
  bd (F_X8_beginAnew a1 σ) fun _ σ1 => L_X8_readAll_7  FU (0 : Int32) σ1 (fun  (σ26 : St) => bd (F_X5_value 1 (1 : Int32) σ26) fun r28 σ27 => bd (F_X5_value 1 (0 : Int32) σ27) fun r31 σ30 => (if r28 ≤ r31 then some ((), σ30) else bd (F_X8_refuse (6 : Int32) (σ30.1 (2, 0, 0) 4) σ30) fun _ σ33 => some ((), σ33))) (fun  (σ36 : St) => bd (F_X5_value 1 (1 : Int32) σ36) fun r38 σ37 => bd (F_X5_value 1 (0 : Int32) σ37) fun r41 σ40 => (if r38 ≤ r41 then some ((), σ40) else bd (F_X8_refuse (6 : Int32) (σ40.1 (2, 0, 0) 4) σ40) fun _ σ43 => some ((), σ43)))
set_option maxRecDepth 20000 in
set_option maxHeartbeats 4000000 in
theorem l_X8_readAll_7 {G : Gx} {p : Program} {l : Launch} {e : Env} {s : State} {m : MethodId} {args : Array Value} {below : List Frame} {meth : Method} {c : Code} (C : Cx G p s m args meth c none 3 RX8 cX8_readAll)  {σ' : St}  (kx40 : St → Option (Unit × St)) (hkx40 : ∀  (τ : St), kx40  τ = some ((), σ') → Rt G p l e (lvl 6) s m args below meth c 0 0 (MQ below (va_Qv (fun b => b = σ') (Wd G) (AG G)) args s 0 0 (AG G)) 3 40 [(0, vR (2, 0, 0))] [] τ) (kx88 : St → Option (Unit × St)) (hkx88 : ∀  (τ : St), kx88  τ = some ((), σ') → Rt G p l e (lvl 6) s m args below meth c 0 0 (MQ below (va_Qv (fun b => b = σ') (Wd G) (AG G)) args s 0 0 (AG G)) 3 88 [(0, vR (2, 0, 0))] [] τ) : ∀ (n : Nat) (v2 : Int32) (τ : St), L_X8_readAll_7  n v2 τ kx40 kx88 = some ((), σ') → Rt G p l e (lvl 6) s m args below meth c 0 0 (MQ below (va_Qv (fun b => b = σ') (Wd G) (AG G)) args s 0 0 (AG G)) 3 7 [(0, vR (2, 0, 0)), (2, vI v2)] [] τ := by
  intro n
  induction n with
  | zero => intro v2 τ hF; cases hF
  | succ n ih =>
    intro v2 τ hF
    unfold L_X8_readAll_7 at hF
    refine r_iload_n C 1 2 dX8_readAll_7 rfl rfl ?_
    refine r_aload_n C 0 0 dX8_readAll_8 rfl rfl ?_
    refine r_getI (kf := 4) C dX8_readAll_9 rfl rfl f_X8 (by decide) t_1_63 rfl ?_
    refine r_icmp_gt C 88 dX8_readAll_12 (by decide)  (fun h25 => ?_) (fun h25 => ?_)
    · have hF := if_t h25 hF
      refine r_drop (ls2 := [(0, vR (2, 0, 0))]) [0] rfl ?_
      exact hkx88 _ hF
    · have hF := if_f h25 hF
      refine r_aload_n C 0 0 dX8_readAll_15 rfl rfl ?_
      refine r_getI (kf := 10) C dX8_readAll_16 rfl rfl f_X8 (by decide) t_1_70 rfl ?_
      refine r_if_ne C 88 dX8_readAll_19 (by decide)  (fun h24 => ?_) (fun h24 => ?_)
      · have hF := if_f h24 hF
        refine r_drop (ls2 := [(0, vR (2, 0, 0))]) [0] rfl ?_
        exact hkx88 _ hF
      · have hF := if_t h24 hF
        refine r_aload_n C 0 0 dX8_readAll_22 rfl rfl ?_
        obtain ⟨⟨⟩, σ3, e4, hF⟩ := bd_e hF
        refine r_callV_v (as := []) (st := []) C dX8_readAll_23 (s_X8_readToken G l e4) rfl rfl rfl t_2_161 t_2_163 t_s_1 t_1_2 t_2_164 m_X8_readToken ⟨Nat.le_of_ble_eq_true rfl, Nat.le_of_ble_eq_true rfl⟩ ⟨rfl, rfl⟩ ⟨Nat.zero_le _, Nat.zero_le _⟩ rfl (Nat.le_of_ble_eq_true rfl) ?_
        refine r_aload_n C 0 0 dX8_readAll_26 rfl rfl ?_
        refine r_getI (kf := 10) C dX8_readAll_27 rfl rfl f_X8 (by decide) t_1_70 rfl ?_
        refine r_if_ne C 88 dX8_readAll_30 (by decide)  (fun h23 => ?_) (fun h23 => ?_)
        · have hF := if_f h23 hF
          refine r_drop (ls2 := [(0, vR (2, 0, 0))]) [0] rfl ?_
          exact hkx88 _ hF
        · have hF := if_t h23 hF
          refine r_aload_n C 0 0 dX8_readAll_33 rfl rfl ?_
          refine r_getI (kf := 7) C dX8_readAll_34 rfl rfl f_X8 (by decide) t_1_66 rfl ?_
          refine r_if_ne C 43 dX8_readAll_37 (by decide)  (fun h22 => ?_) (fun h22 => ?_)
          · have hF := if_f h22 hF
            refine r_aload_n C 0 0 dX8_readAll_43 rfl rfl ?_
            refine r_ldcS C 0 (by decide) dX8_readAll_44 ?_
            obtain ⟨r6, σ5, e7, hF⟩ := bd_e hF
            refine r_callV_i (as := [vR (120, 0, 0)]) (st := []) C dX8_readAll_46 (s_X8_isName G l e7) rfl rfl rfl t_2_177 t_2_179 t_s_4 t_1_2 t_2_180 m_X8_isName ⟨Nat.le_of_ble_eq_true rfl, Nat.le_of_ble_eq_true rfl⟩ ⟨rfl, rfl⟩ ⟨Nat.zero_le _, Nat.zero_le _⟩ rfl (Nat.le_of_ble_eq_true rfl) ?_
            obtain ⟨k8, ek8, hF⟩ := nam_e hF
            have hk8 : ∀  (σ9 : St), k8  σ9 = some ((), σ') → Rt G p l e (lvl 6) s m args below meth c 0 0 (MQ below (va_Qv (fun b => b = σ') (Wd G) (AG G)) args s 0 0 (AG G)) 3 67 [(0, vR (2, 0, 0)), (2, vI v2)] [] σ9 := by
              intro  σ9 hF
              subst ek8
              refine r_aload_n C 0 0 dX8_readAll_67 rfl rfl ?_
              refine r_iconst (v := (3 : Int32)) C dX8_readAll_68 rfl ?_
              obtain ⟨⟨⟩, σ10, e11, hF⟩ := bd_e hF
              refine r_callV_v (as := [vI (3 : Int32)]) (st := []) C dX8_readAll_69 (s_X8_take G l e11) rfl rfl rfl t_2_233 t_2_235 t_s_6 t_1_2 t_2_236 m_X8_take ⟨Nat.le_of_ble_eq_true rfl, Nat.le_of_ble_eq_true rfl⟩ ⟨rfl, rfl⟩ ⟨Nat.zero_le _, Nat.zero_le _⟩ rfl (Nat.le_of_ble_eq_true rfl) ?_
              refine r_aload_n C 0 0 dX8_readAll_72 rfl rfl ?_
              refine r_dup_r C dX8_readAll_73 ?_
              refine r_getI (kf := 9) C dX8_readAll_74 rfl rfl f_X8 (by decide) t_1_68 rfl ?_
              refine r_iconst (v := (1 : Int32)) C dX8_readAll_77 rfl ?_
              refine r_iadd C dX8_readAll_78 ?_
              obtain ⟨σ12, eσ12, hF⟩ := nam_e hF
              refine r_put (kf := 9) (ty0 := tyX8) C dX8_readAll_79 rfl rfl f_X8 tyX8_ok nmX8 (by decide) t_1_68 rfl rfl rfl rfl eσ12 ?_
              obtain ⟨x13, ex13, hF⟩ := nam_e hF
              refine r_iinc (v := x13) (ls2 := [(2, vI x13), (0, vR (2, 0, 0))]) C 1 dX8_readAll_82 rfl ex13.symm (by decide) rfl ?_
              refine r_goto C 7 dX8_readAll_85 (by decide) ?_
              refine r_drop (ls2 := [(0, vR (2, 0, 0)), (2, vI x13)]) [1, 0] rfl ?_
              exact ih _ _ hF
            refine r_if_eq C 59 dX8_readAll_49 (by decide)  (fun h21 => ?_) (fun h21 => ?_)
            · have hF := if_t h21 hF
              refine r_aload_n C 0 0 dX8_readAll_59 rfl rfl ?_
              refine r_aload_n C 0 0 dX8_readAll_60 rfl rfl ?_
              obtain ⟨r15, σ14, e16, hF⟩ := bd_e hF
              refine r_callV_i (as := []) (st := [vR (2, 0, 0)]) C dX8_readAll_61 (s_X8_ruleNamed G l e16) rfl rfl rfl t_3_55 t_3_57 t_s_7 t_1_2 t_3_58 m_X8_ruleNamed ⟨Nat.le_of_ble_eq_true rfl, Nat.le_of_ble_eq_true rfl⟩ ⟨rfl, rfl⟩ ⟨Nat.zero_le _, Nat.zero_le _⟩ rfl (Nat.le_of_ble_eq_true rfl) ?_
              obtain ⟨⟨⟩, σ17, e18, hF⟩ := bd_e hF
              refine r_callV_v (as := [vI r15]) (st := []) C dX8_readAll_64 (s_X8_readRule G l e18) rfl rfl rfl t_3_71 t_3_73 t_s_8 t_1_2 t_3_74 m_X8_readRule ⟨Nat.le_of_ble_eq_true rfl, Nat.le_of_ble_eq_true rfl⟩ ⟨rfl, rfl⟩ ⟨Nat.zero_le _, Nat.zero_le _⟩ rfl (Nat.le_of_ble_eq_true rfl) ?_
              exact hk8 _ hF
            · have hF := if_f h21 hF
              refine r_aload_n C 0 0 dX8_readAll_52 rfl rfl ?_
              obtain ⟨⟨⟩, σ19, e20, hF⟩ := bd_e hF
              refine r_callV_v (as := []) (st := []) C dX8_readAll_53 (s_X8_readRow G l e20) rfl rfl rfl t_2_229 t_2_231 t_s_5 t_1_2 t_2_232 m_X8_readRow ⟨Nat.le_of_ble_eq_true rfl, Nat.le_of_ble_eq_true rfl⟩ ⟨rfl, rfl⟩ ⟨Nat.zero_le _, Nat.zero_le _⟩ rfl (Nat.le_of_ble_eq_true rfl) ?_
              refine r_goto C 67 dX8_readAll_56 (by decide) ?_
              exact hk8 _ hF
          · have hF := if_t h22 hF
            refine r_drop (ls2 := [(0, vR (2, 0, 0))]) [0] rfl ?_
            exact hkx40 _ hF
set_option maxRecDepth 20000 in
set_option maxHeartbeats 4000000 in
theorem s_X8_readAll (G : Gx) (l : Launch) {a1 : Int32} {σ σ' : St}  (hF : F_X8_readAll a1 σ = some ((), σ')) : Sp G l yX8_readAll cX8_readAll 3 none (lvl 6) [vR (2, 0, 0), vI a1] σ (va_Qv (fun b => b = σ') (Wd G) (AG G)) := by
  refine Sp_of (own := RX8) (by decide) rfl (Nat.le_of_ble_eq_true rfl) ?_
  intro p e s m args below meth c C
  show Rt G p l e (lvl 6) s m args below meth c 0 0 (MQ below (va_Qv (fun b => b = σ') (Wd G) (AG G)) args s 0 0 (AG G)) 3 0 [(0, vR (2, 0, 0)), (1, vI a1)] [] σ
  unfold F_X8_readAll at hF
  refine r_aload_n C 0 0 dX8_readAll_0 rfl rfl ?_
  refine r_iload_n C 1 1 dX8_readAll_1 rfl rfl ?_
  obtain ⟨⟨⟩, σ1, e2, hF⟩ := bd_e hF
  refine r_callV_v (as := [vI a1]) (st := []) C dX8_readAll_2 (s_X8_beginAnew G l e2) rfl rfl rfl t_2_152 t_2_154 t_s_0 t_1_2 t_2_155 m_X8_beginAnew ⟨Nat.le_of_ble_eq_true rfl, Nat.le_of_ble_eq_true rfl⟩ ⟨rfl, rfl⟩ ⟨Nat.zero_le _, Nat.zero_le _⟩ rfl (Nat.le_of_ble_eq_true rfl) ?_
  refine r_iconst (v := (0 : Int32)) C dX8_readAll_5 rfl ?_
  refine r_istore_n (ls2 := [(2, vI (0 : Int32)), (0, vR (2, 0, 0)), (1, vI a1)]) C dX8_readAll_6 2 rfl (by decide) rfl ?_
  refine r_drop (ls2 := [(0, vR (2, 0, 0)), (2, vI (0 : Int32))]) [1, 0] rfl ?_
  refine l_X8_readAll_7 C  _ ?_ _ ?_ _ _ _ hF
  · intro  σ26 hF
    refine r_goto C 88 dX8_readAll_40 (by decide) ?_
    refine r_aload_n C 0 0 dX8_readAll_88 rfl rfl ?_
    refine r_getR (kf := 1) (d2 := (3, 1, 0)) C dX8_readAll_89 rfl rfl f_X8 (by decide) t_1_58 rfl rfl ?_
    refine r_iconst (v := (1 : Int32)) C dX8_readAll_92 rfl ?_
    obtain ⟨r28, σ27, e29, hF⟩ := bd_e hF
    refine r_callV_i (as := [vI (1 : Int32)]) (st := []) C dX8_readAll_93 (s_X5_value G l e29) rfl rfl rfl t_3_87 t_3_88 t_3_89 t_1_3 t_3_90 m_X5_value ⟨Nat.le_of_ble_eq_true rfl, Nat.le_of_ble_eq_true rfl⟩ ⟨rfl, rfl⟩ ⟨Nat.zero_le _, Nat.zero_le _⟩ rfl (Nat.le_of_ble_eq_true rfl) ?_
    refine r_aload_n C 0 0 dX8_readAll_96 rfl rfl ?_
    refine r_getR (kf := 1) (d2 := (3, 1, 0)) C dX8_readAll_97 rfl rfl f_X8 (by decide) t_1_58 rfl rfl ?_
    refine r_iconst (v := (0 : Int32)) C dX8_readAll_100 rfl ?_
    obtain ⟨r31, σ30, e32, hF⟩ := bd_e hF
    refine r_callV_i (as := [vI (0 : Int32)]) (st := [vI r28]) C dX8_readAll_101 (s_X5_value G l e32) rfl rfl rfl t_3_87 t_3_88 t_3_89 t_1_3 t_3_90 m_X5_value ⟨Nat.le_of_ble_eq_true rfl, Nat.le_of_ble_eq_true rfl⟩ ⟨rfl, rfl⟩ ⟨Nat.zero_le _, Nat.zero_le _⟩ rfl (Nat.le_of_ble_eq_true rfl) ?_
    refine r_icmp_le C 117 dX8_readAll_104 (by decide)  (fun h35 => ?_) (fun h35 => ?_)
    · have hF := if_t h35 hF
      exact r_return C dX8_readAll_117 (rv_e hF)
    · have hF := if_f h35 hF
      refine r_aload_n C 0 0 dX8_readAll_107 rfl rfl ?_
      refine r_bipush (v := (6 : Int32)) C dX8_readAll_108 rfl ?_
      refine r_aload_n C 0 0 dX8_readAll_110 rfl rfl ?_
      refine r_getI (kf := 4) C dX8_readAll_111 rfl rfl f_X8 (by decide) t_1_63 rfl ?_
      obtain ⟨⟨⟩, σ33, e34, hF⟩ := bd_e hF
      refine r_callV_v (as := [vI (6 : Int32), vI (σ30.1 (2, 0, 0) 4)]) (st := []) C dX8_readAll_114 (s_X8_refuse G l e34) rfl rfl rfl t_2_172 t_2_174 t_s_3 t_1_2 t_2_175 m_X8_refuse ⟨Nat.le_of_ble_eq_true rfl, Nat.le_of_ble_eq_true rfl⟩ ⟨rfl, rfl⟩ ⟨Nat.zero_le _, Nat.zero_le _⟩ rfl (Nat.le_of_ble_eq_true rfl) ?_
      exact r_return C dX8_readAll_117 (rv_e hF)
  · intro  σ36 hF
    refine r_aload_n C 0 0 dX8_readAll_88 rfl rfl ?_
    refine r_getR (kf := 1) (d2 := (3, 1, 0)) C dX8_readAll_89 rfl rfl f_X8 (by decide) t_1_58 rfl rfl ?_
    refine r_iconst (v := (1 : Int32)) C dX8_readAll_92 rfl ?_
    obtain ⟨r38, σ37, e39, hF⟩ := bd_e hF
    refine r_callV_i (as := [vI (1 : Int32)]) (st := []) C dX8_readAll_93 (s_X5_value G l e39) rfl rfl rfl t_3_87 t_3_88 t_3_89 t_1_3 t_3_90 m_X5_value ⟨Nat.le_of_ble_eq_true rfl, Nat.le_of_ble_eq_true rfl⟩ ⟨rfl, rfl⟩ ⟨Nat.zero_le _, Nat.zero_le _⟩ rfl (Nat.le_of_ble_eq_true rfl) ?_
    refine r_aload_n C 0 0 dX8_readAll_96 rfl rfl ?_
    refine r_getR (kf := 1) (d2 := (3, 1, 0)) C dX8_readAll_97 rfl rfl f_X8 (by decide) t_1_58 rfl rfl ?_
    refine r_iconst (v := (0 : Int32)) C dX8_readAll_100 rfl ?_
    obtain ⟨r41, σ40, e42, hF⟩ := bd_e hF
    refine r_callV_i (as := [vI (0 : Int32)]) (st := [vI r38]) C dX8_readAll_101 (s_X5_value G l e42) rfl rfl rfl t_3_87 t_3_88 t_3_89 t_1_3 t_3_90 m_X5_value ⟨Nat.le_of_ble_eq_true rfl, Nat.le_of_ble_eq_true rfl⟩ ⟨rfl, rfl⟩ ⟨Nat.zero_le _, Nat.zero_le _⟩ rfl (Nat.le_of_ble_eq_true rfl) ?_
    refine r_icmp_le C 117 dX8_readAll_104 (by decide)  (fun h45 => ?_) (fun h45 => ?_)
    · have hF := if_t h45 hF
      exact r_return C dX8_readAll_117 (rv_e hF)
    · have hF := if_f h45 hF
      refine r_aload_n C 0 0 dX8_readAll_107 rfl rfl ?_
      refine r_bipush (v := (6 : Int32)) C dX8_readAll_108 rfl ?_
      refine r_aload_n C 0 0 dX8_readAll_110 rfl rfl ?_
      refine r_getI (kf := 4) C dX8_readAll_111 rfl rfl f_X8 (by decide) t_1_63 rfl ?_
      obtain ⟨⟨⟩, σ43, e44, hF⟩ := bd_e hF
      refine r_callV_v (as := [vI (6 : Int32), vI (σ40.1 (2, 0, 0) 4)]) (st := []) C dX8_readAll_114 (s_X8_refuse G l e44) rfl rfl rfl t_2_172 t_2_174 t_s_3 t_1_2 t_2_175 m_X8_refuse ⟨Nat.le_of_ble_eq_true rfl, Nat.le_of_ble_eq_true rfl⟩ ⟨rfl, rfl⟩ ⟨Nat.zero_le _, Nat.zero_le _⟩ rfl (Nat.le_of_ble_eq_true rfl) ?_
      exact r_return C dX8_readAll_117 (rv_e hF)
def F_X5_takeAll (q0 : Nat) (q1 : Nat) (σ : St) : Option (Unit × St) :=
  ck (cpk (0 : Int32) (0 : Int32) (9 : Int32) 9 9) (nam (uR σ (4, q0, 0) (va_cpy (σ.1 (4, q1, 0)) (σ.1 (4, q0, 0)) (0 : Int32).toNatClampNeg (0 : Int32).toNatClampNeg (9 : Int32).toNatClampNeg)) fun σ2 => some ((), σ2))
set_option maxRecDepth 20000 in
set_option maxHeartbeats 4000000 in
theorem s_X5_takeAll (G : Gx) (l : Launch) {q0 : Nat} {q1 : Nat} {σ σ' : St}  (hF : F_X5_takeAll q0 q1 σ = some ((), σ')) : Sp G l yX5_takeAll cX5_takeAll 2 none (lvl 1) [vR (3, q0, 0), vR (3, q1, 0)] σ (va_Qv (fun b => b = σ') (Wd G) (AG G)) := by
  refine Sp_of (own := RX5) (by decide) rfl (Nat.le_of_ble_eq_true rfl) ?_
  intro p e s m args below meth c C
  show Rt G p l e (lvl 1) s m args below meth c 0 0 (MQ below (va_Qv (fun b => b = σ') (Wd G) (AG G)) args s 0 0 (AG G)) 2 0 [(0, vR (3, q0, 0)), (1, vR (3, q1, 0))] [] σ
  unfold F_X5_takeAll at hF
  refine r_aload_n C 1 1 dX5_takeAll_0 rfl rfl ?_
  refine r_getR (kf := 0) (d2 := (4, q1, 0)) C dX5_takeAll_1 rfl rfl f_X5 (by decide) t_1_50 rfl rfl ?_
  refine r_iconst (v := (0 : Int32)) C dX5_takeAll_4 rfl ?_
  refine r_aload_n C 0 0 dX5_takeAll_5 rfl rfl ?_
  refine r_getR (kf := 0) (d2 := (4, q0, 0)) C dX5_takeAll_6 rfl rfl f_X5 (by decide) t_1_50 rfl rfl ?_
  refine r_iconst (v := (0 : Int32)) C dX5_takeAll_9 rfl ?_
  refine r_bipush (v := (9 : Int32)) C dX5_takeAll_10 rfl ?_
  obtain ⟨h1, hF⟩ := ck_e hF
  obtain ⟨σ2, eσ2, hF⟩ := nam_e hF
  refine r_copyI C dX5_takeAll_12 rfl rfl t_1_47 t_1_49 t_1_48 t_1_4 ⟨Nat.le_of_ble_eq_true rfl, Nat.le_of_ble_eq_true rfl⟩ h1 eσ2 ?_
  exact r_return C dX5_takeAll_15 (rv_e hF)
def F_X6_clearDrops (q0 : Nat) (σ : St) : Option (Unit × St) :=
  nam (uI σ (7, q0, 0) 2 (0 : Int32)) fun σ1 => nam (uI σ1 (7, q0, 0) 4 (0 : Int32)) fun σ2 => nam (uI σ2 (7, q0, 0) 7 (0 : Int32)) fun σ3 => nam (uI σ3 (7, q0, 0) 8 (0 : Int32)) fun σ4 => nam (uI σ4 (7, q0, 0) 9 (0 : Int32)) fun σ5 => nam (uI σ5 (7, q0, 0) 10 (0 : Int32)) fun σ6 => some ((), σ6)
set_option maxRecDepth 20000 in
set_option maxHeartbeats 4000000 in
theorem s_X6_clearDrops (G : Gx) (l : Launch) {q0 : Nat} {σ σ' : St}  (hF : F_X6_clearDrops q0 σ = some ((), σ')) : Sp G l yX6_clearDrops cX6_clearDrops 1 none (lvl 0) [vR (7, q0, 0)] σ (va_Qv (fun b => b = σ') (Wd G) (AG G)) := by
  refine Sp_of (own := RX6) (by decide) rfl (Nat.le_of_ble_eq_true rfl) ?_
  intro p e s m args below meth c C
  show Rt G p l e (lvl 0) s m args below meth c 0 0 (MQ below (va_Qv (fun b => b = σ') (Wd G) (AG G)) args s 0 0 (AG G)) 1 0 [(0, vR (7, q0, 0))] [] σ
  unfold F_X6_clearDrops at hF
  refine r_aload_n C 0 0 dX6_clearDrops_0 rfl rfl ?_
  refine r_iconst (v := (0 : Int32)) C dX6_clearDrops_1 rfl ?_
  obtain ⟨σ1, eσ1, hF⟩ := nam_e hF
  refine r_put (kf := 2) (ty0 := tyX6) C dX6_clearDrops_2 rfl rfl f_X6 tyX6_ok nmX6 (by decide) t_1_159 rfl rfl rfl rfl eσ1 ?_
  refine r_aload_n C 0 0 dX6_clearDrops_5 rfl rfl ?_
  refine r_iconst (v := (0 : Int32)) C dX6_clearDrops_6 rfl ?_
  obtain ⟨σ2, eσ2, hF⟩ := nam_e hF
  refine r_put (kf := 4) (ty0 := tyX6) C dX6_clearDrops_7 rfl rfl f_X6 tyX6_ok nmX6 (by decide) t_1_163 rfl rfl rfl rfl eσ2 ?_
  refine r_aload_n C 0 0 dX6_clearDrops_10 rfl rfl ?_
  refine r_iconst (v := (0 : Int32)) C dX6_clearDrops_11 rfl ?_
  obtain ⟨σ3, eσ3, hF⟩ := nam_e hF
  refine r_put (kf := 7) (ty0 := tyX6) C dX6_clearDrops_12 rfl rfl f_X6 tyX6_ok nmX6 (by decide) t_1_169 rfl rfl rfl rfl eσ3 ?_
  refine r_aload_n C 0 0 dX6_clearDrops_15 rfl rfl ?_
  refine r_iconst (v := (0 : Int32)) C dX6_clearDrops_16 rfl ?_
  obtain ⟨σ4, eσ4, hF⟩ := nam_e hF
  refine r_put (kf := 8) (ty0 := tyX6) C dX6_clearDrops_17 rfl rfl f_X6 tyX6_ok nmX6 (by decide) t_1_171 rfl rfl rfl rfl eσ4 ?_
  refine r_aload_n C 0 0 dX6_clearDrops_20 rfl rfl ?_
  refine r_iconst (v := (0 : Int32)) C dX6_clearDrops_21 rfl ?_
  obtain ⟨σ5, eσ5, hF⟩ := nam_e hF
  refine r_put (kf := 9) (ty0 := tyX6) C dX6_clearDrops_22 rfl rfl f_X6 tyX6_ok nmX6 (by decide) t_1_173 rfl rfl rfl rfl eσ5 ?_
  refine r_aload_n C 0 0 dX6_clearDrops_25 rfl rfl ?_
  refine r_iconst (v := (0 : Int32)) C dX6_clearDrops_26 rfl ?_
  obtain ⟨σ6, eσ6, hF⟩ := nam_e hF
  refine r_put (kf := 10) (ty0 := tyX6) C dX6_clearDrops_27 rfl rfl f_X6 tyX6_ok nmX6 (by decide) t_1_175 rfl rfl rfl rfl eσ6 ?_
  exact r_return C dX6_clearDrops_30 (rv_e hF)
def F_X6_beginAnew_t5 (q0 : Nat) (σ : St) : Option (Unit × St) :=
  ck (cpk (0 : Int32) (0 : Int32) (if (96 : Int32) < (96 : Int32) then (96 : Int32) else (96 : Int32)) 96 96) (nam (uR σ (8, q0, 0) (va_cpy (σ.1 (5, 0, 0)) (σ.1 (8, q0, 0)) (0 : Int32).toNatClampNeg (0 : Int32).toNatClampNeg (if (96 : Int32) < (96 : Int32) then (96 : Int32) else (96 : Int32)).toNatClampNeg)) fun σ2 => nam (uI σ2 (7, q0, 0) 3 (0 : Int32)) fun σ3 => nam (uI σ3 (7, q0, 0) 6 (0 : Int32)) fun σ4 => bd (F_X6_clearDrops q0 σ4) fun _ σ5 => some ((), σ5))
set_option maxRecDepth 20000 in
set_option maxHeartbeats 4000000 in
theorem s_X6_beginAnew_t5 (G : Gx) (l : Launch) {q0 : Nat} {σ σ' : St}  (hF : F_X6_beginAnew_t5 q0 σ = some ((), σ')) : Sp G l yX6_beginAnew cX6_beginAnew 2 none (lvl 1) [vR (7, q0, 0), vR (5, 0, 0)] σ (va_Qv (fun b => b = σ') (Wd G) (AG G)) := by
  refine Sp_of (own := RX6) (by decide) rfl (Nat.le_of_ble_eq_true rfl) ?_
  intro p e s m args below meth c C
  show Rt G p l e (lvl 1) s m args below meth c 0 0 (MQ below (va_Qv (fun b => b = σ') (Wd G) (AG G)) args s 0 0 (AG G)) 2 0 [(0, vR (7, q0, 0)), (1, vR (5, 0, 0))] [] σ
  unfold F_X6_beginAnew_t5 at hF
  refine r_aload_n C 1 1 dX6_beginAnew_0 rfl rfl ?_
  refine r_iconst (v := (0 : Int32)) C dX6_beginAnew_1 rfl ?_
  refine r_aload_n C 0 0 dX6_beginAnew_2 rfl rfl ?_
  refine r_getR (kf := 0) (d2 := (8, q0, 0)) C dX6_beginAnew_3 rfl rfl f_X6 (by decide) t_1_153 rfl rfl ?_
  refine r_iconst (v := (0 : Int32)) C dX6_beginAnew_6 rfl ?_
  refine r_bipush (v := (96 : Int32)) C dX6_beginAnew_7 rfl ?_
  refine r_aload_n C 1 1 dX6_beginAnew_9 rfl rfl ?_
  refine r_alen (v := (96 : Int32)) C dX6_beginAnew_10 rfl (by decide) rfl rfl ?_
  refine r_min C dX6_beginAnew_11 t_3_99 t_2_157 t_1_15 t_2_158 ⟨Nat.le_of_ble_eq_true rfl, Nat.le_of_ble_eq_true rfl⟩ ⟨Nat.zero_le _, Nat.zero_le _⟩ ?_
  obtain ⟨h1, hF⟩ := ck_e hF
  obtain ⟨σ2, eσ2, hF⟩ := nam_e hF
  refine r_copyI C dX6_beginAnew_14 rfl rfl t_3_100 t_1_49 t_1_48 t_1_4 ⟨Nat.le_of_ble_eq_true rfl, Nat.le_of_ble_eq_true rfl⟩ h1 eσ2 ?_
  refine r_aload_n C 0 0 dX6_beginAnew_17 rfl rfl ?_
  refine r_iconst (v := (0 : Int32)) C dX6_beginAnew_18 rfl ?_
  obtain ⟨σ3, eσ3, hF⟩ := nam_e hF
  refine r_put (kf := 3) (ty0 := tyX6) C dX6_beginAnew_19 rfl rfl f_X6 tyX6_ok nmX6 (by decide) t_1_161 rfl rfl rfl rfl eσ3 ?_
  refine r_aload_n C 0 0 dX6_beginAnew_22 rfl rfl ?_
  refine r_iconst (v := (0 : Int32)) C dX6_beginAnew_23 rfl ?_
  obtain ⟨σ4, eσ4, hF⟩ := nam_e hF
  refine r_put (kf := 6) (ty0 := tyX6) C dX6_beginAnew_24 rfl rfl f_X6 tyX6_ok nmX6 (by decide) t_1_167 rfl rfl (nar_z (Or.inl rfl)) (fit_z (Or.inl rfl)) eσ4 ?_
  refine r_aload_n C 0 0 dX6_beginAnew_27 rfl rfl ?_
  obtain ⟨⟨⟩, σ5, e6, hF⟩ := bd_e hF
  refine r_callV_v (as := []) (st := []) C dX6_beginAnew_28 (s_X6_clearDrops G l e6) rfl rfl rfl t_3_101 t_3_102 t_3_103 t_1_5 t_3_104 m_X6_clearDrops ⟨Nat.le_of_ble_eq_true rfl, Nat.le_of_ble_eq_true rfl⟩ ⟨rfl, rfl⟩ ⟨Nat.zero_le _, Nat.zero_le _⟩ rfl (Nat.le_of_ble_eq_true rfl) ?_
  exact r_return C dX6_beginAnew_31 (rv_e hF)
def L_X10_text_83  : Nat → Int32 → St → Option (Int32 × St)
  | 0, _, _ => none
  | n + 1, v1, τ =>
  (if (2 : Int32) ≤ v1 then some (τ.1 (2, 0, 0) 9, τ) else ck (inb v1 2) (nam (uI τ (12, (v1.toNatClampNeg), 0) 1 (0 : Int32)) fun σ11 => nam (v1 + (1 : Int32)) fun x12 => L_X10_text_83 n x12 σ11))
def F_X10_text  (σ : St) : Option (Int32 × St) :=
  bd (F_X8_readAll (σ.1 (0, 0, 0) 1) σ) fun _ σ1 => nam (uI σ1 (0, 0, 0) 1 (0 : Int32)) fun σ3 => nam (uI σ3 (0, 0, 0) 2 (σ3.1 (2, 0, 0) 10)) fun σ4 => (if (σ4.1 (0, 0, 0) 2) = 0 then bd (F_X5_takeAll 0 1 σ4) fun _ σ5 => bd (F_X6_beginAnew_t5 0 σ5) fun _ σ7 => nam (uI σ7 (20, 0, 0) 4 (0 : Int32)) fun σ9 => L_X10_text_83  FU (0 : Int32) σ9  else some ((-10 : Int32) - (σ4.1 (2, 0, 0) 11), σ4))
set_option maxRecDepth 20000 in
set_option maxHeartbeats 4000000 in
theorem l_X10_text_83 {G : Gx} {p : Program} {l : Launch} {e : Env} {s : State} {m : MethodId} {args : Array Value} {below : List Frame} {meth : Method} {c : Code} (C : Cx G p s m args meth c (some .int) 2 RX10 cX10_text)  {σ' : St} {r : Int32} : ∀ (n : Nat) (v1 : Int32) (τ : St), L_X10_text_83  n v1 τ = some (r, σ') → Rt G p l e (lvl 7) s m args below meth c 0 0 (MQ below (va_Qi (fun a b => a = r ∧ b = σ') (Wd G) (AG G)) args s 0 0 (AG G)) 2 83 [(0, vR (0, 0, 0)), (1, vI v1)] [] τ := by
  intro n
  induction n with
  | zero => intro v1 τ hF; cases hF
  | succ n ih =>
    intro v1 τ hF
    unfold L_X10_text_83 at hF
    refine r_iload_n C 1 1 dX10_text_83 rfl rfl ?_
    refine r_iconst (v := (2 : Int32)) C dX10_text_84 rfl ?_
    refine r_icmp_ge C 104 dX10_text_85 (by decide)  (fun h13 => ?_) (fun h13 => ?_)
    · have hF := if_t h13 hF
      refine r_aload_n C 0 0 dX10_text_104 rfl rfl ?_
      refine r_getR (kf := 0) (d2 := (2, 0, 0)) C dX10_text_105 rfl rfl f_X10 (by decide) t_2_96 rfl rfl ?_
      refine r_getI (kf := 9) C dX10_text_108 rfl rfl f_X8 (by decide) t_1_69 rfl ?_
      exact r_ireturn C dX10_text_111 (rt_e hF)
    · have hF := if_f h13 hF
      refine r_aload_n C 0 0 dX10_text_88 rfl rfl ?_
      refine r_getR (kf := 5) (d2 := (11, 0, 0)) C dX10_text_89 rfl rfl f_X10 (by decide) t_2_101 rfl rfl ?_
      refine r_iload_n C 1 1 dX10_text_92 rfl rfl ?_
      obtain ⟨h10, hF⟩ := ck_e hF
      refine r_aaload (cA := 0) (d2 := (12, (v1.toNatClampNeg), 0)) C dX10_text_93 rfl rfl h10 rfl ?_
      refine r_iconst (v := (0 : Int32)) C dX10_text_94 rfl ?_
      obtain ⟨σ11, eσ11, hF⟩ := nam_e hF
      refine r_put (kf := 1) (ty0 := tyX1) C dX10_text_95 rfl rfl f_X1 tyX1_ok nmX1 (by decide) t_2_73 rfl rfl (nar_z (Or.inl rfl)) (fit_z (Or.inl rfl)) eσ11 ?_
      obtain ⟨x12, ex12, hF⟩ := nam_e hF
      refine r_iinc (v := x12) (ls2 := [(1, vI x12), (0, vR (0, 0, 0))]) C 1 dX10_text_98 rfl ex12.symm (by decide) rfl ?_
      refine r_goto C 83 dX10_text_101 (by decide) ?_
      refine r_drop (ls2 := [(0, vR (0, 0, 0)), (1, vI x12)]) [1, 0] rfl ?_
      exact ih _ _ hF
set_option maxRecDepth 20000 in
set_option maxHeartbeats 4000000 in
theorem s_X10_text (G : Gx) (l : Launch)  {σ σ' : St} {r : Int32} (hF : F_X10_text  σ = some (r, σ')) : Sp G l yX10_text cX10_text 2 (some .int) (lvl 7) [vR (0, 0, 0)] σ (va_Qi (fun a b => a = r ∧ b = σ') (Wd G) (AG G)) := by
  refine Sp_of (own := RX10) (by decide) rfl (Nat.le_of_ble_eq_true rfl) ?_
  intro p e s m args below meth c C
  show Rt G p l e (lvl 7) s m args below meth c 0 0 (MQ below (va_Qi (fun a b => a = r ∧ b = σ') (Wd G) (AG G)) args s 0 0 (AG G)) 2 0 [(0, vR (0, 0, 0))] [] σ
  unfold F_X10_text at hF
  refine r_aload_n C 0 0 dX10_text_0 rfl rfl ?_
  refine r_getR (kf := 0) (d2 := (2, 0, 0)) C dX10_text_1 rfl rfl f_X10 (by decide) t_2_96 rfl rfl ?_
  refine r_aload_n C 0 0 dX10_text_4 rfl rfl ?_
  refine r_getI (kf := 1) C dX10_text_5 rfl rfl f_X10 (by decide) t_2_97 rfl ?_
  obtain ⟨⟨⟩, σ1, e2, hF⟩ := bd_e hF
  refine r_callV_v (as := [vI (σ.1 (0, 0, 0) 1)]) (st := []) C dX10_text_8 (s_X8_readAll G l e2) rfl rfl rfl t_2_148 t_2_149 t_2_150 t_1_2 t_2_151 m_X8_readAll ⟨Nat.le_of_ble_eq_true rfl, Nat.le_of_ble_eq_true rfl⟩ ⟨rfl, rfl⟩ ⟨Nat.zero_le _, Nat.zero_le _⟩ rfl (Nat.le_of_ble_eq_true rfl) ?_
  refine r_aload_n C 0 0 dX10_text_11 rfl rfl ?_
  refine r_iconst (v := (0 : Int32)) C dX10_text_12 rfl ?_
  obtain ⟨σ3, eσ3, hF⟩ := nam_e hF
  refine r_put (kf := 1) (ty0 := tyX10) C dX10_text_13 rfl rfl f_X10 tyX10_ok nmX10 (by decide) t_2_97 rfl rfl rfl rfl eσ3 ?_
  refine r_aload_n C 0 0 dX10_text_16 rfl rfl ?_
  refine r_aload_n C 0 0 dX10_text_17 rfl rfl ?_
  refine r_getR (kf := 0) (d2 := (2, 0, 0)) C dX10_text_18 rfl rfl f_X10 (by decide) t_2_96 rfl rfl ?_
  refine r_getI (kf := 10) C dX10_text_21 rfl rfl f_X8 (by decide) t_1_71 rfl ?_
  obtain ⟨σ4, eσ4, hF⟩ := nam_e hF
  refine r_put (kf := 2) (ty0 := tyX10) C dX10_text_24 rfl rfl f_X10 tyX10_ok nmX10 (by decide) t_2_98 rfl rfl rfl rfl eσ4 ?_
  refine r_aload_n C 0 0 dX10_text_27 rfl rfl ?_
  refine r_getI (kf := 2) C dX10_text_28 rfl rfl f_X10 (by decide) t_2_98 rfl ?_
  refine r_if_eq C 45 dX10_text_31 (by decide)  (fun h14 => ?_) (fun h14 => ?_)
  · have hF := if_t h14 hF
    refine r_aload_n C 0 0 dX10_text_45 rfl rfl ?_
    refine r_getR (kf := 3) (d2 := (3, 0, 0)) C dX10_text_46 rfl rfl f_X10 (by decide) t_2_99 rfl rfl ?_
    refine r_aload_n C 0 0 dX10_text_49 rfl rfl ?_
    refine r_getR (kf := 0) (d2 := (2, 0, 0)) C dX10_text_50 rfl rfl f_X10 (by decide) t_2_96 rfl rfl ?_
    refine r_getR (kf := 1) (d2 := (3, 1, 0)) C dX10_text_53 rfl rfl f_X8 (by decide) t_1_59 rfl rfl ?_
    obtain ⟨⟨⟩, σ5, e6, hF⟩ := bd_e hF
    refine r_callV_v (as := [vR (3, 1, 0)]) (st := []) C dX10_text_56 (s_X5_takeAll G l e6) rfl rfl rfl t_3_91 t_3_92 t_3_93 t_1_3 t_3_94 m_X5_takeAll ⟨Nat.le_of_ble_eq_true rfl, Nat.le_of_ble_eq_true rfl⟩ ⟨rfl, rfl⟩ ⟨Nat.zero_le _, Nat.zero_le _⟩ rfl (Nat.le_of_ble_eq_true rfl) ?_
    refine r_aload_n C 0 0 dX10_text_59 rfl rfl ?_
    refine r_getR (kf := 4) (d2 := (7, 0, 0)) C dX10_text_60 rfl rfl f_X10 (by decide) t_2_100 rfl rfl ?_
    refine r_aload_n C 0 0 dX10_text_63 rfl rfl ?_
    refine r_getR (kf := 0) (d2 := (2, 0, 0)) C dX10_text_64 rfl rfl f_X10 (by decide) t_2_96 rfl rfl ?_
    refine r_getR (kf := 2) (d2 := (5, 0, 0)) C dX10_text_67 rfl rfl f_X8 (by decide) t_1_61 rfl rfl ?_
    obtain ⟨⟨⟩, σ7, e8, hF⟩ := bd_e hF
    refine r_callV_v (as := [vR (5, 0, 0)]) (st := []) C dX10_text_70 (s_X6_beginAnew_t5 G l e8) rfl rfl rfl t_3_95 t_3_96 t_3_97 t_1_5 t_3_98 m_X6_beginAnew ⟨Nat.le_of_ble_eq_true rfl, Nat.le_of_ble_eq_true rfl⟩ ⟨rfl, rfl⟩ ⟨Nat.zero_le _, Nat.zero_le _⟩ rfl (Nat.le_of_ble_eq_true rfl) ?_
    refine r_aload_n C 0 0 dX10_text_73 rfl rfl ?_
    refine r_getR (kf := 9) (d2 := (20, 0, 0)) C dX10_text_74 rfl rfl f_X10 (by decide) t_2_105 rfl rfl ?_
    refine r_iconst (v := (0 : Int32)) C dX10_text_77 rfl ?_
    obtain ⟨σ9, eσ9, hF⟩ := nam_e hF
    refine r_put (kf := 4) (ty0 := tyX9) C dX10_text_78 rfl rfl f_X9 tyX9_ok nmX9 (by decide) t_2_49 rfl rfl rfl rfl eσ9 ?_
    refine r_iconst (v := (0 : Int32)) C dX10_text_81 rfl ?_
    refine r_istore_n (ls2 := [(1, vI (0 : Int32)), (0, vR (0, 0, 0))]) C dX10_text_82 1 rfl (by decide) rfl ?_
    refine r_drop (ls2 := [(0, vR (0, 0, 0)), (1, vI (0 : Int32))]) [1, 0] rfl ?_
    refine l_X10_text_83 C   _ _ _ hF
  · have hF := if_f h14 hF
    refine r_bipush (v := (-10 : Int32)) C dX10_text_34 rfl ?_
    refine r_aload_n C 0 0 dX10_text_36 rfl rfl ?_
    refine r_getR (kf := 0) (d2 := (2, 0, 0)) C dX10_text_37 rfl rfl f_X10 (by decide) t_2_96 rfl rfl ?_
    refine r_getI (kf := 11) C dX10_text_40 rfl rfl f_X8 (by decide) t_1_73 rfl ?_
    refine r_isub C dX10_text_43 ?_
    exact r_ireturn C dX10_text_44 (rt_e hF)
def F_X10_fault  (σ : St) : Option (Int32 × St) :=
  some (σ.1 (0, 0, 0) 2, σ)
set_option maxRecDepth 20000 in
set_option maxHeartbeats 4000000 in
theorem s_X10_fault (G : Gx) (l : Launch)  {σ σ' : St} {r : Int32} (hF : F_X10_fault  σ = some (r, σ')) : Sp G l yX10_fault cX10_fault 1 (some .int) (lvl 0) [vR (0, 0, 0)] σ (va_Qi (fun a b => a = r ∧ b = σ') (Wd G) (AG G)) := by
  refine Sp_of (own := RX10) (by decide) rfl (Nat.le_of_ble_eq_true rfl) ?_
  intro p e s m args below meth c C
  show Rt G p l e (lvl 0) s m args below meth c 0 0 (MQ below (va_Qi (fun a b => a = r ∧ b = σ') (Wd G) (AG G)) args s 0 0 (AG G)) 1 0 [(0, vR (0, 0, 0))] [] σ
  unfold F_X10_fault at hF
  refine r_aload_n C 0 0 dX10_fault_0 rfl rfl ?_
  refine r_getI (kf := 2) C dX10_fault_1 rfl rfl f_X10 (by decide) t_2_98 rfl ?_
  exact r_ireturn C dX10_fault_4 (rt_e hF)
def F_X10_rule (a1 : Int32) (σ : St) : Option (Int32 × St) :=
  bd (F_X10_within a1 (0 : Int32) (8 : Int32) σ) fun r2 σ1 => (if r2 = 0 then some ((-1 : Int32), σ1) else bd (F_X5_value 0 a1 σ1) fun r5 σ4 => some (r5, σ4))
set_option maxRecDepth 20000 in
set_option maxHeartbeats 4000000 in
theorem s_X10_rule (G : Gx) (l : Launch) {a1 : Int32} {σ σ' : St} {r : Int32} (hF : F_X10_rule a1 σ = some (r, σ')) : Sp G l yX10_rule cX10_rule 2 (some .int) (lvl 1) [vR (0, 0, 0), vI a1] σ (va_Qi (fun a b => a = r ∧ b = σ') (Wd G) (AG G)) := by
  refine Sp_of (own := RX10) (by decide) rfl (Nat.le_of_ble_eq_true rfl) ?_
  intro p e s m args below meth c C
  show Rt G p l e (lvl 1) s m args below meth c 0 0 (MQ below (va_Qi (fun a b => a = r ∧ b = σ') (Wd G) (AG G)) args s 0 0 (AG G)) 2 0 [(0, vR (0, 0, 0)), (1, vI a1)] [] σ
  unfold F_X10_rule at hF
  refine r_iload_n C 1 1 dX10_rule_0 rfl rfl ?_
  refine r_iconst (v := (0 : Int32)) C dX10_rule_1 rfl ?_
  refine r_bipush (v := (8 : Int32)) C dX10_rule_2 rfl ?_
  obtain ⟨r2, σ1, e3, hF⟩ := bd_e hF
  refine r_callS_i (as := [vI a1, vI (0 : Int32), vI (8 : Int32)]) (st := []) C dX10_rule_4 (s_X10_within G l e3) t_2_141 t_2_142 t_1_1 t_2_143 m_X10_within ⟨Nat.le_of_ble_eq_true rfl, Nat.le_of_ble_eq_true rfl⟩ ⟨rfl, rfl⟩ ⟨Nat.zero_le _, Nat.zero_le _⟩ rfl (Nat.le_of_ble_eq_true rfl) ?_
  refine r_if_eq C 21 dX10_rule_7 (by decide)  (fun h7 => ?_) (fun h7 => ?_)
  · have hF := if_t h7 hF
    refine r_iconst (v := (-1 : Int32)) C dX10_rule_21 rfl ?_
    exact r_ireturn C dX10_rule_22 (rt_e hF)
  · have hF := if_f h7 hF
    refine r_aload_n C 0 0 dX10_rule_10 rfl rfl ?_
    refine r_getR (kf := 3) (d2 := (3, 0, 0)) C dX10_rule_11 rfl rfl f_X10 (by decide) t_2_99 rfl rfl ?_
    refine r_iload_n C 1 1 dX10_rule_14 rfl rfl ?_
    obtain ⟨r5, σ4, e6, hF⟩ := bd_e hF
    refine r_callV_i (as := [vI a1]) (st := []) C dX10_rule_15 (s_X5_value G l e6) rfl rfl rfl t_3_113 t_3_88 t_3_89 t_1_3 t_3_90 m_X5_value ⟨Nat.le_of_ble_eq_true rfl, Nat.le_of_ble_eq_true rfl⟩ ⟨rfl, rfl⟩ ⟨Nat.zero_le _, Nat.zero_le _⟩ rfl (Nat.le_of_ble_eq_true rfl) ?_
    refine r_goto C 22 dX10_rule_18 (by decide) ?_
    exact r_ireturn C dX10_rule_22 (rt_e hF)
def F_X10_isCell (a0 : Int32) (σ : St) : Option (Int32 × St) :=
  (if a0 < 0 then some ((0 : Int32), σ) else (if (96 : Int32) ≤ a0 then some ((0 : Int32), σ) else some ((1 : Int32), σ)))
set_option maxRecDepth 20000 in
set_option maxHeartbeats 4000000 in
theorem s_X10_isCell (G : Gx) (l : Launch) {a0 : Int32} {σ σ' : St} {r : Int32} (hF : F_X10_isCell a0 σ = some (r, σ')) : Sp G l yX10_isCell cX10_isCell 1 (some .boolean) (lvl 0) [vI a0] σ (va_Qi (fun a b => a = r ∧ b = σ') (Wd G) (AG G)) := by
  refine Sp_of (own := RX10) (by decide) rfl (Nat.le_of_ble_eq_true rfl) ?_
  intro p e s m args below meth c C
  show Rt G p l e (lvl 0) s m args below meth c 0 0 (MQ below (va_Qi (fun a b => a = r ∧ b = σ') (Wd G) (AG G)) args s 0 0 (AG G)) 1 0 [(0, vI a0)] [] σ
  unfold F_X10_isCell at hF
  refine r_iload_n C 0 0 dX10_isCell_0 rfl rfl ?_
  refine r_if_lt C 14 dX10_isCell_1 (by decide)  (fun h2 => ?_) (fun h2 => ?_)
  · have hF := if_t h2 hF
    refine r_iconst (v := (0 : Int32)) C dX10_isCell_14 rfl ?_
    exact r_zreturn C dX10_isCell_15 (nar_z (Or.inl rfl)) (rt_e hF)
  · have hF := if_f h2 hF
    refine r_iload_n C 0 0 dX10_isCell_4 rfl rfl ?_
    refine r_bipush (v := (96 : Int32)) C dX10_isCell_5 rfl ?_
    refine r_icmp_ge C 14 dX10_isCell_7 (by decide)  (fun h1 => ?_) (fun h1 => ?_)
    · have hF := if_t h1 hF
      refine r_iconst (v := (0 : Int32)) C dX10_isCell_14 rfl ?_
      exact r_zreturn C dX10_isCell_15 (nar_z (Or.inl rfl)) (rt_e hF)
    · have hF := if_f h1 hF
      refine r_iconst (v := (1 : Int32)) C dX10_isCell_10 rfl ?_
      refine r_goto C 15 dX10_isCell_11 (by decide) ?_
      exact r_zreturn C dX10_isCell_15 (nar_z (Or.inr rfl)) (rt_e hF)
def F_X6_kindAt (q0 : Nat) (a1 : Int32) (σ : St) : Option (Int32 × St) :=
  (if a1 < 0 then some ((5 : Int32), σ) else (if (96 : Int32) ≤ a1 then some ((5 : Int32), σ) else ck (inb a1 96) (some (σ.1 (8, q0, 0) (a1.toNatClampNeg), σ))))
set_option maxRecDepth 20000 in
set_option maxHeartbeats 4000000 in
theorem s_X6_kindAt (G : Gx) (l : Launch) {q0 : Nat} {a1 : Int32} {σ σ' : St} {r : Int32} (hF : F_X6_kindAt q0 a1 σ = some (r, σ')) : Sp G l yX6_kindAt cX6_kindAt 2 (some .int) (lvl 0) [vR (7, q0, 0), vI a1] σ (va_Qi (fun a b => a = r ∧ b = σ') (Wd G) (AG G)) := by
  refine Sp_of (own := RX6) (by decide) rfl (Nat.le_of_ble_eq_true rfl) ?_
  intro p e s m args below meth c C
  show Rt G p l e (lvl 0) s m args below meth c 0 0 (MQ below (va_Qi (fun a b => a = r ∧ b = σ') (Wd G) (AG G)) args s 0 0 (AG G)) 2 0 [(0, vR (7, q0, 0)), (1, vI a1)] [] σ
  unfold F_X6_kindAt at hF
  refine r_iload_n C 1 1 dX6_kindAt_0 rfl rfl ?_
  refine r_if_lt C 19 dX6_kindAt_1 (by decide)  (fun h3 => ?_) (fun h3 => ?_)
  · have hF := if_t h3 hF
    refine r_iconst (v := (5 : Int32)) C dX6_kindAt_19 rfl ?_
    exact r_ireturn C dX6_kindAt_20 (rt_e hF)
  · have hF := if_f h3 hF
    refine r_iload_n C 1 1 dX6_kindAt_4 rfl rfl ?_
    refine r_bipush (v := (96 : Int32)) C dX6_kindAt_5 rfl ?_
    refine r_icmp_ge C 19 dX6_kindAt_7 (by decide)  (fun h2 => ?_) (fun h2 => ?_)
    · have hF := if_t h2 hF
      refine r_iconst (v := (5 : Int32)) C dX6_kindAt_19 rfl ?_
      exact r_ireturn C dX6_kindAt_20 (rt_e hF)
    · have hF := if_f h2 hF
      refine r_aload_n C 0 0 dX6_kindAt_10 rfl rfl ?_
      refine r_getR (kf := 0) (d2 := (8, q0, 0)) C dX6_kindAt_11 rfl rfl f_X6 (by decide) t_1_153 rfl rfl ?_
      refine r_iload_n C 1 1 dX6_kindAt_14 rfl rfl ?_
      obtain ⟨h1, hF⟩ := ck_e hF
      refine r_iaload C (a1.toNatClampNeg) dX6_kindAt_15 rfl h1 rfl ?_
      refine r_goto C 20 dX6_kindAt_16 (by decide) ?_
      exact r_ireturn C dX6_kindAt_20 (rt_e hF)
def F_X10_cell (a1 : Int32) (σ : St) : Option (Int32 × St) :=
  bd (F_X10_isCell a1 σ) fun r2 σ1 => (if r2 = 0 then some ((-1 : Int32), σ1) else bd (F_X6_kindAt 0 a1 σ1) fun r5 σ4 => some (r5, σ4))
set_option maxRecDepth 20000 in
set_option maxHeartbeats 4000000 in
theorem s_X10_cell (G : Gx) (l : Launch) {a1 : Int32} {σ σ' : St} {r : Int32} (hF : F_X10_cell a1 σ = some (r, σ')) : Sp G l yX10_cell cX10_cell 2 (some .int) (lvl 1) [vR (0, 0, 0), vI a1] σ (va_Qi (fun a b => a = r ∧ b = σ') (Wd G) (AG G)) := by
  refine Sp_of (own := RX10) (by decide) rfl (Nat.le_of_ble_eq_true rfl) ?_
  intro p e s m args below meth c C
  show Rt G p l e (lvl 1) s m args below meth c 0 0 (MQ below (va_Qi (fun a b => a = r ∧ b = σ') (Wd G) (AG G)) args s 0 0 (AG G)) 2 0 [(0, vR (0, 0, 0)), (1, vI a1)] [] σ
  unfold F_X10_cell at hF
  refine r_iload_n C 1 1 dX10_cell_0 rfl rfl ?_
  obtain ⟨r2, σ1, e3, hF⟩ := bd_e hF
  refine r_callS_i (as := [vI a1]) (st := []) C dX10_cell_1 (s_X10_isCell G l e3) t_3_118 t_3_119 t_1_1 t_3_120 m_X10_isCell ⟨Nat.le_of_ble_eq_true rfl, Nat.le_of_ble_eq_true rfl⟩ ⟨rfl, rfl⟩ ⟨Nat.zero_le _, Nat.zero_le _⟩ rfl (Nat.le_of_ble_eq_true rfl) ?_
  refine r_if_eq C 18 dX10_cell_4 (by decide)  (fun h7 => ?_) (fun h7 => ?_)
  · have hF := if_t h7 hF
    refine r_iconst (v := (-1 : Int32)) C dX10_cell_18 rfl ?_
    exact r_ireturn C dX10_cell_19 (rt_e hF)
  · have hF := if_f h7 hF
    refine r_aload_n C 0 0 dX10_cell_7 rfl rfl ?_
    refine r_getR (kf := 4) (d2 := (7, 0, 0)) C dX10_cell_8 rfl rfl f_X10 (by decide) t_2_100 rfl rfl ?_
    refine r_iload_n C 1 1 dX10_cell_11 rfl rfl ?_
    obtain ⟨r5, σ4, e6, hF⟩ := bd_e hF
    refine r_callV_i (as := [vI a1]) (st := []) C dX10_cell_12 (s_X6_kindAt G l e6) rfl rfl rfl t_3_121 t_3_122 t_3_123 t_1_5 t_3_124 m_X6_kindAt ⟨Nat.le_of_ble_eq_true rfl, Nat.le_of_ble_eq_true rfl⟩ ⟨rfl, rfl⟩ ⟨Nat.zero_le _, Nat.zero_le _⟩ rfl (Nat.le_of_ble_eq_true rfl) ?_
    refine r_goto C 19 dX10_cell_15 (by decide) ?_
    exact r_ireturn C dX10_cell_19 (rt_e hF)
def L_X6_dropAt_2 (q0 : Nat) (c1 : Int32) : Nat → Int32 → St → Option (Int32 × St)
  | 0, _, _ => none
  | n + 1, v2, τ =>
  (if (τ.1 (7, q0, 0) 2) ≤ v2 then some ((-4 : Int32), τ) else ck (inb v2 12) ((if (τ.1 (10, q0, (v2.toNatClampNeg)) 3) = 0 then ck (inb v2 12) ((if (τ.1 (10, q0, (v2.toNatClampNeg)) 0) = c1 then some (v2, τ) else nam (v2 + (1 : Int32)) fun x4 => L_X6_dropAt_2 q0 c1 n x4 τ)) else nam (v2 + (1 : Int32)) fun x2 => L_X6_dropAt_2 q0 c1 n x2 τ)))
def F_X6_dropAt (q0 : Nat) (a1 : Int32) (σ : St) : Option (Int32 × St) :=
  L_X6_dropAt_2 q0 a1 FU (0 : Int32) σ 
set_option maxRecDepth 20000 in
set_option maxHeartbeats 4000000 in
theorem l_X6_dropAt_2 {G : Gx} {p : Program} {l : Launch} {e : Env} {s : State} {m : MethodId} {args : Array Value} {below : List Frame} {meth : Method} {c : Code} (C : Cx G p s m args meth c (some .int) 3 RX6 cX6_dropAt) (q0 : Nat) (c1 : Int32) {σ' : St} {r : Int32} : ∀ (n : Nat) (v2 : Int32) (τ : St), L_X6_dropAt_2 q0 c1 n v2 τ = some (r, σ') → Rt G p l e (lvl 0) s m args below meth c 0 0 (MQ below (va_Qi (fun a b => a = r ∧ b = σ') (Wd G) (AG G)) args s 0 0 (AG G)) 3 2 [(0, vR (7, q0, 0)), (1, vI c1), (2, vI v2)] [] τ := by
  intro n
  induction n with
  | zero => intro v2 τ hF; cases hF
  | succ n ih =>
    intro v2 τ hF
    unfold L_X6_dropAt_2 at hF
    refine r_iload_n C 2 2 dX6_dropAt_2 rfl rfl ?_
    refine r_aload_n C 0 0 dX6_dropAt_3 rfl rfl ?_
    refine r_getI (kf := 2) C dX6_dropAt_4 rfl rfl f_X6 (by decide) t_1_159 rfl ?_
    refine r_icmp_ge C 43 dX6_dropAt_7 (by decide)  (fun h7 => ?_) (fun h7 => ?_)
    · have hF := if_t h7 hF
      refine r_bipush (v := (-4 : Int32)) C dX6_dropAt_43 rfl ?_
      exact r_ireturn C dX6_dropAt_45 (rt_e hF)
    · have hF := if_f h7 hF
      refine r_aload_n C 0 0 dX6_dropAt_10 rfl rfl ?_
      refine r_getR (kf := 1) (d2 := (9, q0, 0)) C dX6_dropAt_11 rfl rfl f_X6 (by decide) t_1_156 rfl rfl ?_
      refine r_iload_n C 2 2 dX6_dropAt_14 rfl rfl ?_
      obtain ⟨h1, hF⟩ := ck_e hF
      refine r_aaload (cA := 0) (d2 := (10, q0, (v2.toNatClampNeg))) C dX6_dropAt_15 rfl rfl h1 rfl ?_
      refine r_getI (kf := 3) C dX6_dropAt_16 rfl rfl f_X0 (by decide) t_1_132 rfl ?_
      refine r_if_ne C 37 dX6_dropAt_19 (by decide)  (fun h6 => ?_) (fun h6 => ?_)
      · have hF := if_f h6 hF
        obtain ⟨x2, ex2, hF⟩ := nam_e hF
        refine r_iinc (v := x2) (ls2 := [(2, vI x2), (0, vR (7, q0, 0)), (1, vI c1)]) C 2 dX6_dropAt_37 rfl ex2.symm (by decide) rfl ?_
        refine r_goto C 2 dX6_dropAt_40 (by decide) ?_
        refine r_drop (ls2 := [(0, vR (7, q0, 0)), (1, vI c1), (2, vI x2)]) [1, 2, 0] rfl ?_
        exact ih _ _ hF
      · have hF := if_t h6 hF
        refine r_aload_n C 0 0 dX6_dropAt_22 rfl rfl ?_
        refine r_getR (kf := 1) (d2 := (9, q0, 0)) C dX6_dropAt_23 rfl rfl f_X6 (by decide) t_1_156 rfl rfl ?_
        refine r_iload_n C 2 2 dX6_dropAt_26 rfl rfl ?_
        obtain ⟨h3, hF⟩ := ck_e hF
        refine r_aaload (cA := 0) (d2 := (10, q0, (v2.toNatClampNeg))) C dX6_dropAt_27 rfl rfl h3 rfl ?_
        refine r_getI (kf := 0) C dX6_dropAt_28 rfl rfl f_X0 (by decide) t_1_121 rfl ?_
        refine r_iload_n C 1 1 dX6_dropAt_31 rfl rfl ?_
        refine r_icmp_ne C 37 dX6_dropAt_32 (by decide)  (fun h5 => ?_) (fun h5 => ?_)
        · have hF := if_f h5 hF
          obtain ⟨x4, ex4, hF⟩ := nam_e hF
          refine r_iinc (v := x4) (ls2 := [(2, vI x4), (0, vR (7, q0, 0)), (1, vI c1)]) C 2 dX6_dropAt_37 rfl ex4.symm (by decide) rfl ?_
          refine r_goto C 2 dX6_dropAt_40 (by decide) ?_
          refine r_drop (ls2 := [(0, vR (7, q0, 0)), (1, vI c1), (2, vI x4)]) [1, 2, 0] rfl ?_
          exact ih _ _ hF
        · have hF := if_t h5 hF
          refine r_iload_n C 2 2 dX6_dropAt_35 rfl rfl ?_
          exact r_ireturn C dX6_dropAt_36 (rt_e hF)
set_option maxRecDepth 20000 in
set_option maxHeartbeats 4000000 in
theorem s_X6_dropAt (G : Gx) (l : Launch) {q0 : Nat} {a1 : Int32} {σ σ' : St} {r : Int32} (hF : F_X6_dropAt q0 a1 σ = some (r, σ')) : Sp G l yX6_dropAt cX6_dropAt 3 (some .int) (lvl 0) [vR (7, q0, 0), vI a1] σ (va_Qi (fun a b => a = r ∧ b = σ') (Wd G) (AG G)) := by
  refine Sp_of (own := RX6) (by decide) rfl (Nat.le_of_ble_eq_true rfl) ?_
  intro p e s m args below meth c C
  show Rt G p l e (lvl 0) s m args below meth c 0 0 (MQ below (va_Qi (fun a b => a = r ∧ b = σ') (Wd G) (AG G)) args s 0 0 (AG G)) 3 0 [(0, vR (7, q0, 0)), (1, vI a1)] [] σ
  unfold F_X6_dropAt at hF
  refine r_iconst (v := (0 : Int32)) C dX6_dropAt_0 rfl ?_
  refine r_istore_n (ls2 := [(2, vI (0 : Int32)), (0, vR (7, q0, 0)), (1, vI a1)]) C dX6_dropAt_1 2 rfl (by decide) rfl ?_
  refine r_drop (ls2 := [(0, vR (7, q0, 0)), (1, vI a1), (2, vI (0 : Int32))]) [1, 2, 0] rfl ?_
  refine l_X6_dropAt_2 C q0 a1  _ _ _ hF
def F_X10_put (a1 : Int32) (a2 : Int32) (σ : St) : Option (Int32 × St) :=
  bd (F_X10_isCell a1 σ) fun r2 σ1 => (if r2 = 0 then some ((-1 : Int32), σ1) else bd (F_X10_within a2 (0 : Int32) (7 : Int32) σ1) fun r5 σ4 => (if r5 = 0 then some ((-1 : Int32), σ4) else (if a2 = (5 : Int32) then bd (F_X6_dropAt 0 a1 σ4) fun r8 σ7 => (if r8 = (-4 : Int32) then ck (inb a1 96) (nam (σ7.1 (8, 0, 0) (a1.toNatClampNeg)) fun x11 => ck (inb a1 96) (nam (uI σ7 (8, 0, 0) (a1.toNatClampNeg) a2) fun σ13 => some (x11, σ13))) else some ((-2 : Int32), σ7)) else (if a2 = (6 : Int32) then bd (F_X6_dropAt 0 a1 σ4) fun r20 σ19 => (if r20 = (-4 : Int32) then ck (inb a1 96) (nam (σ19.1 (8, 0, 0) (a1.toNatClampNeg)) fun x23 => ck (inb a1 96) (nam (uI σ19 (8, 0, 0) (a1.toNatClampNeg) a2) fun σ25 => some (x23, σ25))) else some ((-2 : Int32), σ19)) else ck (inb a1 96) (nam (σ4.1 (8, 0, 0) (a1.toNatClampNeg)) fun x16 => ck (inb a1 96) (nam (uI σ4 (8, 0, 0) (a1.toNatClampNeg) a2) fun σ18 => some (x16, σ18)))))))
set_option maxRecDepth 20000 in
set_option maxHeartbeats 4000000 in
theorem s_X10_put (G : Gx) (l : Launch) {a1 : Int32} {a2 : Int32} {σ σ' : St} {r : Int32} (hF : F_X10_put a1 a2 σ = some (r, σ')) : Sp G l yX10_put cX10_put 4 (some .int) (lvl 1) [vR (0, 0, 0), vI a1, vI a2] σ (va_Qi (fun a b => a = r ∧ b = σ') (Wd G) (AG G)) := by
  refine Sp_of (own := RX10) (by decide) rfl (Nat.le_of_ble_eq_true rfl) ?_
  intro p e s m args below meth c C
  show Rt G p l e (lvl 1) s m args below meth c 0 0 (MQ below (va_Qi (fun a b => a = r ∧ b = σ') (Wd G) (AG G)) args s 0 0 (AG G)) 4 0 [(0, vR (0, 0, 0)), (1, vI a1), (2, vI a2)] [] σ
  unfold F_X10_put at hF
  refine r_iload_n C 1 1 dX10_put_0 rfl rfl ?_
  obtain ⟨r2, σ1, e3, hF⟩ := bd_e hF
  refine r_callS_i (as := [vI a1]) (st := []) C dX10_put_1 (s_X10_isCell G l e3) t_3_118 t_3_119 t_1_1 t_3_120 m_X10_isCell ⟨Nat.le_of_ble_eq_true rfl, Nat.le_of_ble_eq_true rfl⟩ ⟨rfl, rfl⟩ ⟨Nat.zero_le _, Nat.zero_le _⟩ rfl (Nat.le_of_ble_eq_true rfl) ?_
  refine r_if_eq C 17 dX10_put_4 (by decide)  (fun h30 => ?_) (fun h30 => ?_)
  · have hF := if_t h30 hF
    refine r_iconst (v := (-1 : Int32)) C dX10_put_17 rfl ?_
    exact r_ireturn C dX10_put_18 (rt_e hF)
  · have hF := if_f h30 hF
    refine r_iload_n C 2 2 dX10_put_7 rfl rfl ?_
    refine r_iconst (v := (0 : Int32)) C dX10_put_8 rfl ?_
    refine r_bipush (v := (7 : Int32)) C dX10_put_9 rfl ?_
    obtain ⟨r5, σ4, e6, hF⟩ := bd_e hF
    refine r_callS_i (as := [vI a2, vI (0 : Int32), vI (7 : Int32)]) (st := []) C dX10_put_11 (s_X10_within G l e6) t_2_141 t_2_142 t_1_1 t_2_143 m_X10_within ⟨Nat.le_of_ble_eq_true rfl, Nat.le_of_ble_eq_true rfl⟩ ⟨rfl, rfl⟩ ⟨Nat.zero_le _, Nat.zero_le _⟩ rfl (Nat.le_of_ble_eq_true rfl) ?_
    refine r_if_ne C 19 dX10_put_14 (by decide)  (fun h29 => ?_) (fun h29 => ?_)
    · have hF := if_f h29 hF
      refine r_iload_n C 2 2 dX10_put_19 rfl rfl ?_
      refine r_iconst (v := (5 : Int32)) C dX10_put_20 rfl ?_
      refine r_icmp_eq C 30 dX10_put_21 (by decide)  (fun h28 => ?_) (fun h28 => ?_)
      · have hF := if_t h28 hF
        refine r_aload_n C 0 0 dX10_put_30 rfl rfl ?_
        refine r_getR (kf := 4) (d2 := (7, 0, 0)) C dX10_put_31 rfl rfl f_X10 (by decide) t_2_100 rfl rfl ?_
        refine r_iload_n C 1 1 dX10_put_34 rfl rfl ?_
        obtain ⟨r8, σ7, e9, hF⟩ := bd_e hF
        refine r_callV_i (as := [vI a1]) (st := []) C dX10_put_35 (s_X6_dropAt G l e9) rfl rfl rfl t_3_129 t_3_130 t_3_131 t_1_5 t_3_132 m_X6_dropAt ⟨Nat.le_of_ble_eq_true rfl, Nat.le_of_ble_eq_true rfl⟩ ⟨rfl, rfl⟩ ⟨Nat.zero_le _, Nat.zero_le _⟩ rfl (Nat.le_of_ble_eq_true rfl) ?_
        refine r_bipush (v := (-4 : Int32)) C dX10_put_38 rfl ?_
        refine r_icmp_eq C 46 dX10_put_40 (by decide)  (fun h14 => ?_) (fun h14 => ?_)
        · have hF := if_t h14 hF
          refine r_aload_n C 0 0 dX10_put_46 rfl rfl ?_
          refine r_getR (kf := 4) (d2 := (7, 0, 0)) C dX10_put_47 rfl rfl f_X10 (by decide) t_2_100 rfl rfl ?_
          refine r_getR (kf := 0) (d2 := (8, 0, 0)) C dX10_put_50 rfl rfl f_X6 (by decide) t_1_155 rfl rfl ?_
          refine r_iload_n C 1 1 dX10_put_53 rfl rfl ?_
          obtain ⟨h10, hF⟩ := ck_e hF
          refine r_iaload C (a1.toNatClampNeg) dX10_put_54 rfl h10 rfl ?_
          obtain ⟨x11, ex11, hF⟩ := nam_e hF
          refine r_topI ex11 ?_
          refine r_istore_n (ls2 := [(3, vI x11), (0, vR (0, 0, 0)), (1, vI a1), (2, vI a2)]) C dX10_put_55 3 rfl (by decide) rfl ?_
          refine r_aload_n C 1 0 dX10_put_56 rfl rfl ?_
          refine r_getR (kf := 4) (d2 := (7, 0, 0)) C dX10_put_57 rfl rfl f_X10 (by decide) t_2_100 rfl rfl ?_
          refine r_getR (kf := 0) (d2 := (8, 0, 0)) C dX10_put_60 rfl rfl f_X6 (by decide) t_1_155 rfl rfl ?_
          refine r_iload_n C 2 1 dX10_put_63 rfl rfl ?_
          refine r_iload_n C 3 2 dX10_put_64 rfl rfl ?_
          obtain ⟨h12, hF⟩ := ck_e hF
          obtain ⟨σ13, eσ13, hF⟩ := nam_e hF
          refine r_iastore C (a1.toNatClampNeg) dX10_put_65 rfl h12 rfl eσ13 ?_
          refine r_iload_n C 0 3 dX10_put_66 rfl rfl ?_
          exact r_ireturn C dX10_put_67 (rt_e hF)
        · have hF := if_f h14 hF
          refine r_bipush (v := (-2 : Int32)) C dX10_put_43 rfl ?_
          exact r_ireturn C dX10_put_45 (rt_e hF)
      · have hF := if_f h28 hF
        refine r_iload_n C 2 2 dX10_put_24 rfl rfl ?_
        refine r_bipush (v := (6 : Int32)) C dX10_put_25 rfl ?_
        refine r_icmp_ne C 46 dX10_put_27 (by decide)  (fun h27 => ?_) (fun h27 => ?_)
        · have hF := if_f h27 hF
          refine r_aload_n C 0 0 dX10_put_46 rfl rfl ?_
          refine r_getR (kf := 4) (d2 := (7, 0, 0)) C dX10_put_47 rfl rfl f_X10 (by decide) t_2_100 rfl rfl ?_
          refine r_getR (kf := 0) (d2 := (8, 0, 0)) C dX10_put_50 rfl rfl f_X6 (by decide) t_1_155 rfl rfl ?_
          refine r_iload_n C 1 1 dX10_put_53 rfl rfl ?_
          obtain ⟨h15, hF⟩ := ck_e hF
          refine r_iaload C (a1.toNatClampNeg) dX10_put_54 rfl h15 rfl ?_
          obtain ⟨x16, ex16, hF⟩ := nam_e hF
          refine r_topI ex16 ?_
          refine r_istore_n (ls2 := [(3, vI x16), (0, vR (0, 0, 0)), (1, vI a1), (2, vI a2)]) C dX10_put_55 3 rfl (by decide) rfl ?_
          refine r_aload_n C 1 0 dX10_put_56 rfl rfl ?_
          refine r_getR (kf := 4) (d2 := (7, 0, 0)) C dX10_put_57 rfl rfl f_X10 (by decide) t_2_100 rfl rfl ?_
          refine r_getR (kf := 0) (d2 := (8, 0, 0)) C dX10_put_60 rfl rfl f_X6 (by decide) t_1_155 rfl rfl ?_
          refine r_iload_n C 2 1 dX10_put_63 rfl rfl ?_
          refine r_iload_n C 3 2 dX10_put_64 rfl rfl ?_
          obtain ⟨h17, hF⟩ := ck_e hF
          obtain ⟨σ18, eσ18, hF⟩ := nam_e hF
          refine r_iastore C (a1.toNatClampNeg) dX10_put_65 rfl h17 rfl eσ18 ?_
          refine r_iload_n C 0 3 dX10_put_66 rfl rfl ?_
          exact r_ireturn C dX10_put_67 (rt_e hF)
        · have hF := if_t h27 hF
          refine r_aload_n C 0 0 dX10_put_30 rfl rfl ?_
          refine r_getR (kf := 4) (d2 := (7, 0, 0)) C dX10_put_31 rfl rfl f_X10 (by decide) t_2_100 rfl rfl ?_
          refine r_iload_n C 1 1 dX10_put_34 rfl rfl ?_
          obtain ⟨r20, σ19, e21, hF⟩ := bd_e hF
          refine r_callV_i (as := [vI a1]) (st := []) C dX10_put_35 (s_X6_dropAt G l e21) rfl rfl rfl t_3_129 t_3_130 t_3_131 t_1_5 t_3_132 m_X6_dropAt ⟨Nat.le_of_ble_eq_true rfl, Nat.le_of_ble_eq_true rfl⟩ ⟨rfl, rfl⟩ ⟨Nat.zero_le _, Nat.zero_le _⟩ rfl (Nat.le_of_ble_eq_true rfl) ?_
          refine r_bipush (v := (-4 : Int32)) C dX10_put_38 rfl ?_
          refine r_icmp_eq C 46 dX10_put_40 (by decide)  (fun h26 => ?_) (fun h26 => ?_)
          · have hF := if_t h26 hF
            refine r_aload_n C 0 0 dX10_put_46 rfl rfl ?_
            refine r_getR (kf := 4) (d2 := (7, 0, 0)) C dX10_put_47 rfl rfl f_X10 (by decide) t_2_100 rfl rfl ?_
            refine r_getR (kf := 0) (d2 := (8, 0, 0)) C dX10_put_50 rfl rfl f_X6 (by decide) t_1_155 rfl rfl ?_
            refine r_iload_n C 1 1 dX10_put_53 rfl rfl ?_
            obtain ⟨h22, hF⟩ := ck_e hF
            refine r_iaload C (a1.toNatClampNeg) dX10_put_54 rfl h22 rfl ?_
            obtain ⟨x23, ex23, hF⟩ := nam_e hF
            refine r_topI ex23 ?_
            refine r_istore_n (ls2 := [(3, vI x23), (0, vR (0, 0, 0)), (1, vI a1), (2, vI a2)]) C dX10_put_55 3 rfl (by decide) rfl ?_
            refine r_aload_n C 1 0 dX10_put_56 rfl rfl ?_
            refine r_getR (kf := 4) (d2 := (7, 0, 0)) C dX10_put_57 rfl rfl f_X10 (by decide) t_2_100 rfl rfl ?_
            refine r_getR (kf := 0) (d2 := (8, 0, 0)) C dX10_put_60 rfl rfl f_X6 (by decide) t_1_155 rfl rfl ?_
            refine r_iload_n C 2 1 dX10_put_63 rfl rfl ?_
            refine r_iload_n C 3 2 dX10_put_64 rfl rfl ?_
            obtain ⟨h24, hF⟩ := ck_e hF
            obtain ⟨σ25, eσ25, hF⟩ := nam_e hF
            refine r_iastore C (a1.toNatClampNeg) dX10_put_65 rfl h24 rfl eσ25 ?_
            refine r_iload_n C 0 3 dX10_put_66 rfl rfl ?_
            exact r_ireturn C dX10_put_67 (rt_e hF)
          · have hF := if_f h26 hF
            refine r_bipush (v := (-2 : Int32)) C dX10_put_43 rfl ?_
            exact r_ireturn C dX10_put_45 (rt_e hF)
    · have hF := if_t h29 hF
      refine r_iconst (v := (-1 : Int32)) C dX10_put_17 rfl ?_
      exact r_ireturn C dX10_put_18 (rt_e hF)
def F_X10_isHeat (a0 : Int32) (σ : St) : Option (Int32 × St) :=
  bd (F_X10_within a0 (0 : Int32) (99 : Int32) σ) fun r2 σ1 => ck (decide (r2 = 0 ∨ r2 = 1)) (some (r2, σ1))
set_option maxRecDepth 20000 in
set_option maxHeartbeats 4000000 in
theorem s_X10_isHeat (G : Gx) (l : Launch) {a0 : Int32} {σ σ' : St} {r : Int32} (hF : F_X10_isHeat a0 σ = some (r, σ')) : Sp G l yX10_isHeat cX10_isHeat 1 (some .boolean) (lvl 1) [vI a0] σ (va_Qi (fun a b => a = r ∧ b = σ') (Wd G) (AG G)) := by
  refine Sp_of (own := RX10) (by decide) rfl (Nat.le_of_ble_eq_true rfl) ?_
  intro p e s m args below meth c C
  show Rt G p l e (lvl 1) s m args below meth c 0 0 (MQ below (va_Qi (fun a b => a = r ∧ b = σ') (Wd G) (AG G)) args s 0 0 (AG G)) 1 0 [(0, vI a0)] [] σ
  unfold F_X10_isHeat at hF
  refine r_iload_n C 0 0 dX10_isHeat_0 rfl rfl ?_
  refine r_iconst (v := (0 : Int32)) C dX10_isHeat_1 rfl ?_
  refine r_bipush (v := (99 : Int32)) C dX10_isHeat_2 rfl ?_
  obtain ⟨r2, σ1, e3, hF⟩ := bd_e hF
  refine r_callS_i (as := [vI a0, vI (0 : Int32), vI (99 : Int32)]) (st := []) C dX10_isHeat_4 (s_X10_within G l e3) t_2_141 t_2_142 t_1_1 t_2_143 m_X10_within ⟨Nat.le_of_ble_eq_true rfl, Nat.le_of_ble_eq_true rfl⟩ ⟨rfl, rfl⟩ ⟨Nat.zero_le _, Nat.zero_le _⟩ rfl (Nat.le_of_ble_eq_true rfl) ?_
  obtain ⟨h4, hF⟩ := ck_e hF
  exact r_zreturn C dX10_isHeat_7 (nar_z (bz h4)) (rt_e hF)
def F_X5_floatsAt (q0 : Nat) (a1 : Int32) (a2 : Int32) (σ : St) : Option (Int32 × St) :=
  nam (fun (y1 : Int32) (σ3 : St) => ck (inb y1 9) ((if a1 < (σ3.1 (4, q0, 0) (y1.toNatClampNeg)) then some ((0 : Int32), σ3) else some ((1 : Int32), σ3)))) fun k2 => (if a2 = 0 then k2 (1 : Int32) σ else k2 (0 : Int32) σ)
set_option maxRecDepth 20000 in
set_option maxHeartbeats 4000000 in
theorem s_X5_floatsAt (G : Gx) (l : Launch) {q0 : Nat} {a1 : Int32} {a2 : Int32} {σ σ' : St} {r : Int32} (hF : F_X5_floatsAt q0 a1 a2 σ = some (r, σ')) : Sp G l yX5_floatsAt cX5_floatsAt 3 (some .boolean) (lvl 0) [vR (3, q0, 0), vI a1, vI a2] σ (va_Qi (fun a b => a = r ∧ b = σ') (Wd G) (AG G)) := by
  refine Sp_of (own := RX5) (by decide) rfl (Nat.le_of_ble_eq_true rfl) ?_
  intro p e s m args below meth c C
  show Rt G p l e (lvl 0) s m args below meth c 0 0 (MQ below (va_Qi (fun a b => a = r ∧ b = σ') (Wd G) (AG G)) args s 0 0 (AG G)) 3 0 [(0, vR (3, q0, 0)), (1, vI a1), (2, vI a2)] [] σ
  unfold F_X5_floatsAt at hF
  refine r_iload_n C 1 1 dX5_floatsAt_0 rfl rfl ?_
  refine r_aload_n C 0 0 dX5_floatsAt_1 rfl rfl ?_
  refine r_getR (kf := 0) (d2 := (4, q0, 0)) C dX5_floatsAt_2 rfl rfl f_X5 (by decide) t_1_50 rfl rfl ?_
  refine r_iload_n C 2 2 dX5_floatsAt_5 rfl rfl ?_
  obtain ⟨k2, ek2, hF⟩ := nam_e hF
  have hk2 : ∀ (y1 : Int32) (σ3 : St), k2 y1 σ3 = some (r, σ') → Rt G p l e (lvl 0) s m args below meth c 0 0 (MQ below (va_Qi (fun a b => a = r ∧ b = σ') (Wd G) (AG G)) args s 0 0 (AG G)) 3 14 [] [vI y1, vR (4, q0, 0), vI a1] σ3 := by
    intro y1 σ3 hF
    subst ek2
    obtain ⟨h4, hF⟩ := ck_e hF
    refine r_iaload C (y1.toNatClampNeg) dX5_floatsAt_14 rfl h4 rfl ?_
    refine r_icmp_lt C 22 dX5_floatsAt_15 (by decide)  (fun h5 => ?_) (fun h5 => ?_)
    · have hF := if_t h5 hF
      refine r_iconst (v := (0 : Int32)) C dX5_floatsAt_22 rfl ?_
      exact r_zreturn C dX5_floatsAt_23 (nar_z (Or.inl rfl)) (rt_e hF)
    · have hF := if_f h5 hF
      refine r_iconst (v := (1 : Int32)) C dX5_floatsAt_18 rfl ?_
      refine r_goto C 23 dX5_floatsAt_19 (by decide) ?_
      exact r_zreturn C dX5_floatsAt_23 (nar_z (Or.inr rfl)) (rt_e hF)
  refine r_if_eq C 13 dX5_floatsAt_6 (by decide)  (fun h6 => ?_) (fun h6 => ?_)
  · have hF := if_t h6 hF
    refine r_iconst (v := (1 : Int32)) C dX5_floatsAt_13 rfl ?_
    refine r_drop (ls2 := []) [] rfl ?_
    exact hk2 _ _ hF
  · have hF := if_f h6 hF
    refine r_iconst (v := (0 : Int32)) C dX5_floatsAt_9 rfl ?_
    refine r_goto C 14 dX5_floatsAt_10 (by decide) ?_
    refine r_drop (ls2 := []) [] rfl ?_
    exact hk2 _ _ hF
def F_X10_heat (a1 : Int32) (σ : St) : Option (Int32 × St) :=
  bd (F_X10_isHeat a1 σ) fun r2 σ1 => (if r2 = 0 then some ((-1 : Int32), σ1) else nam (uI σ1 (7, 0, 0) 3 a1) fun σ4 => nam (fun (y5 : Int32) (σ7 : St) => bd (F_X5_floatsAt 0 a1 y5 σ7) fun r9 σ8 => ck (decide (r9 = 0 ∨ r9 = 1)) (nam (uI σ8 (7, 0, 0) 6 r9) fun σ12 => (if (σ12.1 (7, 0, 0) 6) = 0 then some ((0 : Int32), σ12) else some ((1 : Int32), σ12)))) fun k6 => (if (σ4.1 (7, 0, 0) 6) = 0 then k6 (1 : Int32) σ4 else k6 (0 : Int32) σ4))
set_option maxRecDepth 20000 in
set_option maxHeartbeats 4000000 in
theorem s_X10_heat (G : Gx) (l : Launch) {a1 : Int32} {σ σ' : St} {r : Int32} (hF : F_X10_heat a1 σ = some (r, σ')) : Sp G l yX10_heat cX10_heat 2 (some .int) (lvl 2) [vR (0, 0, 0), vI a1] σ (va_Qi (fun a b => a = r ∧ b = σ') (Wd G) (AG G)) := by
  refine Sp_of (own := RX10) (by decide) rfl (Nat.le_of_ble_eq_true rfl) ?_
  intro p e s m args below meth c C
  show Rt G p l e (lvl 2) s m args below meth c 0 0 (MQ below (va_Qi (fun a b => a = r ∧ b = σ') (Wd G) (AG G)) args s 0 0 (AG G)) 2 0 [(0, vR (0, 0, 0)), (1, vI a1)] [] σ
  unfold F_X10_heat at hF
  refine r_iload_n C 1 1 dX10_heat_0 rfl rfl ?_
  obtain ⟨r2, σ1, e3, hF⟩ := bd_e hF
  refine r_callS_i (as := [vI a1]) (st := []) C dX10_heat_1 (s_X10_isHeat G l e3) t_3_137 t_3_138 t_1_1 t_3_139 m_X10_isHeat ⟨Nat.le_of_ble_eq_true rfl, Nat.le_of_ble_eq_true rfl⟩ ⟨rfl, rfl⟩ ⟨Nat.zero_le _, Nat.zero_le _⟩ rfl (Nat.le_of_ble_eq_true rfl) ?_
  refine r_if_ne C 9 dX10_heat_4 (by decide)  (fun h15 => ?_) (fun h15 => ?_)
  · have hF := if_f h15 hF
    refine r_aload_n C 0 0 dX10_heat_9 rfl rfl ?_
    refine r_getR (kf := 4) (d2 := (7, 0, 0)) C dX10_heat_10 rfl rfl f_X10 (by decide) t_2_100 rfl rfl ?_
    refine r_iload_n C 1 1 dX10_heat_13 rfl rfl ?_
    obtain ⟨σ4, eσ4, hF⟩ := nam_e hF
    refine r_put (kf := 3) (ty0 := tyX6) C dX10_heat_14 rfl rfl f_X6 tyX6_ok nmX6 (by decide) t_1_162 rfl rfl rfl rfl eσ4 ?_
    refine r_aload_n C 0 0 dX10_heat_17 rfl rfl ?_
    refine r_getR (kf := 4) (d2 := (7, 0, 0)) C dX10_heat_18 rfl rfl f_X10 (by decide) t_2_100 rfl rfl ?_
    refine r_aload_n C 0 0 dX10_heat_21 rfl rfl ?_
    refine r_getR (kf := 3) (d2 := (3, 0, 0)) C dX10_heat_22 rfl rfl f_X10 (by decide) t_2_99 rfl rfl ?_
    refine r_iload_n C 1 1 dX10_heat_25 rfl rfl ?_
    refine r_aload_n C 0 0 dX10_heat_26 rfl rfl ?_
    refine r_getR (kf := 4) (d2 := (7, 0, 0)) C dX10_heat_27 rfl rfl f_X10 (by decide) t_2_100 rfl rfl ?_
    refine r_getI (kf := 6) C dX10_heat_30 rfl rfl f_X6 (by decide) t_1_168 rfl ?_
    obtain ⟨k6, ek6, hF⟩ := nam_e hF
    have hk6 : ∀ (y5 : Int32) (σ7 : St), k6 y5 σ7 = some (r, σ') → Rt G p l e (lvl 2) s m args below meth c 0 0 (MQ below (va_Qi (fun a b => a = r ∧ b = σ') (Wd G) (AG G)) args s 0 0 (AG G)) 2 41 [(0, vR (0, 0, 0))] [vI y5, vI a1, vR (3, 0, 0), vR (7, 0, 0)] σ7 := by
      intro y5 σ7 hF
      subst ek6
      obtain ⟨r9, σ8, e10, hF⟩ := bd_e hF
      refine r_callV_i (as := [vI a1, vI y5]) (st := [vR (7, 0, 0)]) C dX10_heat_41 (s_X5_floatsAt G l e10) rfl rfl rfl t_3_140 t_3_141 t_3_142 t_1_3 t_3_143 m_X5_floatsAt ⟨Nat.le_of_ble_eq_true rfl, Nat.le_of_ble_eq_true rfl⟩ ⟨rfl, rfl⟩ ⟨Nat.zero_le _, Nat.zero_le _⟩ rfl (Nat.le_of_ble_eq_true rfl) ?_
      obtain ⟨h11, hF⟩ := ck_e hF
      obtain ⟨σ12, eσ12, hF⟩ := nam_e hF
      refine r_put (kf := 6) (ty0 := tyX6) C dX10_heat_44 rfl rfl f_X6 tyX6_ok nmX6 (by decide) t_1_168 rfl rfl (nar_z (bz h11)) (fit_z (bz h11)) eσ12 ?_
      refine r_aload_n C 0 0 dX10_heat_47 rfl rfl ?_
      refine r_getR (kf := 4) (d2 := (7, 0, 0)) C dX10_heat_48 rfl rfl f_X10 (by decide) t_2_100 rfl rfl ?_
      refine r_getI (kf := 6) C dX10_heat_51 rfl rfl f_X6 (by decide) t_1_168 rfl ?_
      refine r_if_eq C 61 dX10_heat_54 (by decide)  (fun h13 => ?_) (fun h13 => ?_)
      · have hF := if_t h13 hF
        refine r_iconst (v := (0 : Int32)) C dX10_heat_61 rfl ?_
        exact r_ireturn C dX10_heat_62 (rt_e hF)
      · have hF := if_f h13 hF
        refine r_iconst (v := (1 : Int32)) C dX10_heat_57 rfl ?_
        refine r_goto C 62 dX10_heat_58 (by decide) ?_
        exact r_ireturn C dX10_heat_62 (rt_e hF)
    refine r_if_ne C 40 dX10_heat_33 (by decide)  (fun h14 => ?_) (fun h14 => ?_)
    · have hF := if_f h14 hF
      refine r_iconst (v := (0 : Int32)) C dX10_heat_40 rfl ?_
      refine r_drop (ls2 := [(0, vR (0, 0, 0))]) [0] rfl ?_
      exact hk6 _ _ hF
    · have hF := if_t h14 hF
      refine r_iconst (v := (1 : Int32)) C dX10_heat_36 rfl ?_
      refine r_goto C 41 dX10_heat_37 (by decide) ?_
      refine r_drop (ls2 := [(0, vR (0, 0, 0))]) [0] rfl ?_
      exact hk6 _ _ hF
  · have hF := if_t h15 hF
    refine r_iconst (v := (-1 : Int32)) C dX10_heat_7 rfl ?_
    exact r_ireturn C dX10_heat_8 (rt_e hF)
def F_X10_isSize (a0 : Int32) (σ : St) : Option (Int32 × St) :=
  bd (F_X10_within a0 (1 : Int32) (60 : Int32) σ) fun r2 σ1 => ck (decide (r2 = 0 ∨ r2 = 1)) (some (r2, σ1))
set_option maxRecDepth 20000 in
set_option maxHeartbeats 4000000 in
theorem s_X10_isSize (G : Gx) (l : Launch) {a0 : Int32} {σ σ' : St} {r : Int32} (hF : F_X10_isSize a0 σ = some (r, σ')) : Sp G l yX10_isSize cX10_isSize 1 (some .boolean) (lvl 1) [vI a0] σ (va_Qi (fun a b => a = r ∧ b = σ') (Wd G) (AG G)) := by
  refine Sp_of (own := RX10) (by decide) rfl (Nat.le_of_ble_eq_true rfl) ?_
  intro p e s m args below meth c C
  show Rt G p l e (lvl 1) s m args below meth c 0 0 (MQ below (va_Qi (fun a b => a = r ∧ b = σ') (Wd G) (AG G)) args s 0 0 (AG G)) 1 0 [(0, vI a0)] [] σ
  unfold F_X10_isSize at hF
  refine r_iload_n C 0 0 dX10_isSize_0 rfl rfl ?_
  refine r_iconst (v := (1 : Int32)) C dX10_isSize_1 rfl ?_
  refine r_bipush (v := (60 : Int32)) C dX10_isSize_2 rfl ?_
  obtain ⟨r2, σ1, e3, hF⟩ := bd_e hF
  refine r_callS_i (as := [vI a0, vI (1 : Int32), vI (60 : Int32)]) (st := []) C dX10_isSize_4 (s_X10_within G l e3) t_2_141 t_2_142 t_1_1 t_2_143 m_X10_within ⟨Nat.le_of_ble_eq_true rfl, Nat.le_of_ble_eq_true rfl⟩ ⟨rfl, rfl⟩ ⟨Nat.zero_le _, Nat.zero_le _⟩ rfl (Nat.le_of_ble_eq_true rfl) ?_
  obtain ⟨h4, hF⟩ := ck_e hF
  exact r_zreturn C dX10_isSize_7 (nar_z (bz h4)) (rt_e hF)
def F_X10_isWay (a0 : Int32) (σ : St) : Option (Int32 × St) :=
  (if a0 < 0 then some ((0 : Int32), σ) else (if (4 : Int32) ≤ a0 then some ((0 : Int32), σ) else some ((1 : Int32), σ)))
set_option maxRecDepth 20000 in
set_option maxHeartbeats 4000000 in
theorem s_X10_isWay (G : Gx) (l : Launch) {a0 : Int32} {σ σ' : St} {r : Int32} (hF : F_X10_isWay a0 σ = some (r, σ')) : Sp G l yX10_isWay cX10_isWay 1 (some .boolean) (lvl 0) [vI a0] σ (va_Qi (fun a b => a = r ∧ b = σ') (Wd G) (AG G)) := by
  refine Sp_of (own := RX10) (by decide) rfl (Nat.le_of_ble_eq_true rfl) ?_
  intro p e s m args below meth c C
  show Rt G p l e (lvl 0) s m args below meth c 0 0 (MQ below (va_Qi (fun a b => a = r ∧ b = σ') (Wd G) (AG G)) args s 0 0 (AG G)) 1 0 [(0, vI a0)] [] σ
  unfold F_X10_isWay at hF
  refine r_iload_n C 0 0 dX10_isWay_0 rfl rfl ?_
  refine r_if_lt C 13 dX10_isWay_1 (by decide)  (fun h2 => ?_) (fun h2 => ?_)
  · have hF := if_t h2 hF
    refine r_iconst (v := (0 : Int32)) C dX10_isWay_13 rfl ?_
    exact r_zreturn C dX10_isWay_14 (nar_z (Or.inl rfl)) (rt_e hF)
  · have hF := if_f h2 hF
    refine r_iload_n C 0 0 dX10_isWay_4 rfl rfl ?_
    refine r_iconst (v := (4 : Int32)) C dX10_isWay_5 rfl ?_
    refine r_icmp_ge C 13 dX10_isWay_6 (by decide)  (fun h1 => ?_) (fun h1 => ?_)
    · have hF := if_t h1 hF
      refine r_iconst (v := (0 : Int32)) C dX10_isWay_13 rfl ?_
      exact r_zreturn C dX10_isWay_14 (nar_z (Or.inl rfl)) (rt_e hF)
    · have hF := if_f h1 hF
      refine r_iconst (v := (1 : Int32)) C dX10_isWay_9 rfl ?_
      refine r_goto C 14 dX10_isWay_10 (by decide) ?_
      exact r_zreturn C dX10_isWay_14 (nar_z (Or.inr rfl)) (rt_e hF)
def F_X10_isDropToBe (a0 : Int32) (a1 : Int32) (a2 : Int32) (σ : St) : Option (Int32 × St) :=
  bd (F_X10_isCell a0 σ) fun r2 σ1 => (if r2 = 0 then some ((0 : Int32), σ1) else bd (F_X10_isSize a1 σ1) fun r5 σ4 => (if r5 = 0 then some ((0 : Int32), σ4) else bd (F_X10_isWay a2 σ4) fun r8 σ7 => (if r8 = 0 then some ((0 : Int32), σ7) else some ((1 : Int32), σ7))))
set_option maxRecDepth 20000 in
set_option maxHeartbeats 4000000 in
theorem s_X10_isDropToBe (G : Gx) (l : Launch) {a0 : Int32} {a1 : Int32} {a2 : Int32} {σ σ' : St} {r : Int32} (hF : F_X10_isDropToBe a0 a1 a2 σ = some (r, σ')) : Sp G l yX10_isDropToBe cX10_isDropToBe 3 (some .boolean) (lvl 2) [vI a0, vI a1, vI a2] σ (va_Qi (fun a b => a = r ∧ b = σ') (Wd G) (AG G)) := by
  refine Sp_of (own := RX10) (by decide) rfl (Nat.le_of_ble_eq_true rfl) ?_
  intro p e s m args below meth c C
  show Rt G p l e (lvl 2) s m args below meth c 0 0 (MQ below (va_Qi (fun a b => a = r ∧ b = σ') (Wd G) (AG G)) args s 0 0 (AG G)) 3 0 [(0, vI a0), (1, vI a1), (2, vI a2)] [] σ
  unfold F_X10_isDropToBe at hF
  refine r_iload_n C 0 0 dX10_isDropToBe_0 rfl rfl ?_
  obtain ⟨r2, σ1, e3, hF⟩ := bd_e hF
  refine r_callS_i (as := [vI a0]) (st := []) C dX10_isDropToBe_1 (s_X10_isCell G l e3) t_3_118 t_3_119 t_1_1 t_3_120 m_X10_isCell ⟨Nat.le_of_ble_eq_true rfl, Nat.le_of_ble_eq_true rfl⟩ ⟨rfl, rfl⟩ ⟨Nat.zero_le _, Nat.zero_le _⟩ rfl (Nat.le_of_ble_eq_true rfl) ?_
  refine r_if_eq C 25 dX10_isDropToBe_4 (by decide)  (fun h12 => ?_) (fun h12 => ?_)
  · have hF := if_t h12 hF
    refine r_iconst (v := (0 : Int32)) C dX10_isDropToBe_25 rfl ?_
    exact r_zreturn C dX10_isDropToBe_26 (nar_z (Or.inl rfl)) (rt_e hF)
  · have hF := if_f h12 hF
    refine r_iload_n C 1 1 dX10_isDropToBe_7 rfl rfl ?_
    obtain ⟨r5, σ4, e6, hF⟩ := bd_e hF
    refine r_callS_i (as := [vI a1]) (st := []) C dX10_isDropToBe_8 (s_X10_isSize G l e6) t_3_155 t_3_156 t_1_1 t_3_157 m_X10_isSize ⟨Nat.le_of_ble_eq_true rfl, Nat.le_of_ble_eq_true rfl⟩ ⟨rfl, rfl⟩ ⟨Nat.zero_le _, Nat.zero_le _⟩ rfl (Nat.le_of_ble_eq_true rfl) ?_
    refine r_if_eq C 25 dX10_isDropToBe_11 (by decide)  (fun h11 => ?_) (fun h11 => ?_)
    · have hF := if_t h11 hF
      refine r_iconst (v := (0 : Int32)) C dX10_isDropToBe_25 rfl ?_
      exact r_zreturn C dX10_isDropToBe_26 (nar_z (Or.inl rfl)) (rt_e hF)
    · have hF := if_f h11 hF
      refine r_iload_n C 2 2 dX10_isDropToBe_14 rfl rfl ?_
      obtain ⟨r8, σ7, e9, hF⟩ := bd_e hF
      refine r_callS_i (as := [vI a2]) (st := []) C dX10_isDropToBe_15 (s_X10_isWay G l e9) t_3_158 t_3_159 t_1_1 t_3_160 m_X10_isWay ⟨Nat.le_of_ble_eq_true rfl, Nat.le_of_ble_eq_true rfl⟩ ⟨rfl, rfl⟩ ⟨Nat.zero_le _, Nat.zero_le _⟩ rfl (Nat.le_of_ble_eq_true rfl) ?_
      refine r_if_eq C 25 dX10_isDropToBe_18 (by decide)  (fun h10 => ?_) (fun h10 => ?_)
      · have hF := if_t h10 hF
        refine r_iconst (v := (0 : Int32)) C dX10_isDropToBe_25 rfl ?_
        exact r_zreturn C dX10_isDropToBe_26 (nar_z (Or.inl rfl)) (rt_e hF)
      · have hF := if_f h10 hF
        refine r_iconst (v := (1 : Int32)) C dX10_isDropToBe_21 rfl ?_
        refine r_goto C 26 dX10_isDropToBe_22 (by decide) ?_
        exact r_zreturn C dX10_isDropToBe_26 (nar_z (Or.inr rfl)) (rt_e hF)
