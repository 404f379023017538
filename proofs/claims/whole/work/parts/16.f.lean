/-! told lives: which are right, where floating may begin -/
def soF (R : Nat → Int32) (x : St) (i : Nat) : Bool := decide (nI (lfN R (x.1 (21, 0, 0) i).toNatClampNeg (x.1 (22, 0, 0) i).toNatClampNeg (x.1 (24, 0, 0) i)) = x.1 (23, 0, 0) i)
def rgN (f : Nat → Bool) : Nat → Nat
  | 0 => 0
  | i + 1 => rgN f i + (if f i then 2 ^ i else 0)
theorem rgN_lt (f : Nat → Bool) : ∀ i, rgN f i < 2 ^ i := by
  intro i
  induction i with
  | zero => exact Nat.one_pos
  | succ i ih =>
    rw [rgN, Nat.pow_succ]
    split <;> omega
theorem rgN_all (f : Nat → Bool) : ∀ n, rgN f n = 2 ^ n - 1 ↔ ∀ j, j < n → f j = true := by
  intro n
  induction n with
  | zero => exact ⟨fun _ j hj => absurd hj (by omega), fun _ => rfl⟩
  | succ n ih =>
    have h1 := rgN_lt f n
    rw [rgN, Nat.pow_succ]
    by_cases z : f n = true
    · rw [if_pos z]
      constructor
      · intro h j hj
        rcases Nat.lt_or_ge j n with q | q
        · exact ih.mp (by omega) j q
        · rw [show j = n by omega]; exact z
      · intro h
        have := ih.mpr (fun j hj => h j (by omega))
        omega
    · rw [if_neg z]
      constructor
      · intro h; omega
      · intro h; exact absurd (h n (by omega)) z
theorem sh_pw : ∀ i, i ≤ 12 → (1 : Int32) <<< (nI i &&& 31) = nI (2 ^ i) := by decide +kernel
theorem or_pw {w i : Nat} (hi : i < 12) (hw : w < 2 ^ i) : nI w ||| nI (2 ^ i) = nI (w + 2 ^ i) := by
  have hp : 2 ^ i ≤ 2 ^ 11 := Nat.pow_le_pow_right (by omega) (by omega)
  apply Int32.toBitVec_inj.mp
  apply BitVec.eq_of_toNat_eq
  rw [Int32.toBitVec_or, BitVec.toNat_or, pk_tn (by omega), pk_tn (by omega), pk_tn (by omega)]
  have := Nat.two_pow_add_eq_or_of_lt hw 1
  rw [Nat.mul_one] at this
  rw [Nat.or_comm, ← this, Nat.add_comm]
theorem lfB_u {R : Nat → Int32} {v : Int32} {s h : Nat} {fl : Bool} : lfB (upd R 0 v) s h fl = lfB R s h fl := by
  unfold lfB
  rw [pk_un (by omega), pk_un (by omega), pk_un (by omega), pk_un (by omega)]
theorem RG_u {R : Nat → Int32} {u : Nat} (hR : RG R) (h1 : 1 ≤ u) (h2 : u ≤ 99) : RG (upd R 0 (nI u)) := by
  obtain ⟨_, a1, ⟨p, q, b1, b2, b3, b4, b5⟩, a3, a4, a5, a6, a7⟩ := hR
  refine ⟨⟨u, h1, h2, pk_us⟩, by rw [pk_un (by omega)]; exact a1, ⟨p, q, b1, b2, b3, by rw [pk_un (by omega)]; exact b4, by rw [pk_un (by omega)]; exact b5⟩, by rw [pk_un (by omega)]; exact a3, by rw [pk_un (by omega)]; exact a4, by rw [pk_un (by omega)]; exact a5, by rw [pk_un (by omega)]; exact a6, by rw [pk_un (by omega)]; exact a7⟩
theorem x_isSo {x : St} {n i : Nat} {v : Int32} (hR : RG (x.1 (4, 0, 0))) (hn : x.1 (20, 0, 0) 4 = nI n) (h12 : n ≤ 12) (hi : i < n) (hs : IV 1 60 (x.1 (21, 0, 0) i)) (hh : IV 0 99 (x.1 (22, 0, 0) i)) : F_X9_isSo (nI i) 0 v x = some (if soF (upd (x.1 (4, 0, 0)) 0 v) x i then 1 else 0, x) := by
  obtain ⟨s, s1, s2, s3⟩ := hs
  obtain ⟨t, t1, t2, t3⟩ := hh
  have p : ¬ nI i < 0 := nI_pos (by omega)
  unfold soF lfN
  rw [lfB_u, pk_us, pk_un (show (1 : Nat) ≠ 0 by omega), s3, t3, nI_clamp (by omega), nI_clamp (by omega)]
  have lb : ∀ b, F_X5_lifeBy 0 (nI s) (nI t) b x = some (nI (lfB (x.1 (4, 0, 0)) s t (decide (¬ b = 0))), x) := x_lifeBy hR s1 s2 t2
  have l0 : (decide (¬ (0 : Int32) = 0)) = false := by decide
  have l1 : (decide (¬ (1 : Int32) = 0)) = true := by decide
  by_cases z : x.1 (24, 0, 0) i = 0
  · by_cases z2 : nI t < x.1 (4, 0, 0) 1
    · by_cases z3 : nI (lfB (x.1 (4, 0, 0)) s t false) = x.1 (23, 0, 0) i <;> simp (disch := omega) only [F_X9_isSo, p, hn, i_lt, hi, ↓reduceIte, inb_i, ck_i, nam_i, nI_clamp, z, x_valueL, bd_i, s3, t3, z2, lb, l0, z3, not_true_eq_false, decide_false, decide_true, Bool.false_eq_true]
    · by_cases z3 : nI (lfB (x.1 (4, 0, 0)) s t true) = x.1 (23, 0, 0) i <;> simp (disch := omega) only [F_X9_isSo, p, hn, i_lt, hi, ↓reduceIte, inb_i, ck_i, nam_i, nI_clamp, z, x_valueL, bd_i, s3, t3, z2, lb, l1, z3, not_true_eq_false, not_false_eq_true, decide_false, decide_true, Bool.false_eq_true]
  · by_cases z2 : nI t < v
    · by_cases z3 : nI (lfB (x.1 (4, 0, 0)) s t false) = x.1 (23, 0, 0) i <;> simp (disch := omega) only [F_X9_isSo, p, hn, i_lt, hi, ↓reduceIte, inb_i, ck_i, nam_i, nI_clamp, z, bd_i, s3, t3, z2, lb, l0, z3, not_true_eq_false, decide_false, decide_true, Bool.false_eq_true]
    · by_cases z3 : nI (lfB (x.1 (4, 0, 0)) s t true) = x.1 (23, 0, 0) i <;> simp (disch := omega) only [F_X9_isSo, p, hn, i_lt, hi, ↓reduceIte, inb_i, ck_i, nam_i, nI_clamp, z, bd_i, s3, t3, z2, lb, l1, z3, not_true_eq_false, not_false_eq_true, decide_false, decide_true, Bool.false_eq_true]
theorem m_isRight {x τ : St} {i : Nat} (hR : RG (τ.1 (43, 0, 0))) (hi : i < 12) (he : IV 1 60 (x.1 (21, 0, 0) i) ∧ τ.1 (51, 0, 0) (4 * i) = x.1 (21, 0, 0) i ∧ IV 0 99 (x.1 (22, 0, 0) i) ∧ τ.1 (51, 0, 0) (4 * i + 1) = x.1 (22, 0, 0) i ∧ (x.1 (24, 0, 0) i = 0 ∨ x.1 (24, 0, 0) i = 1) ∧ τ.1 (51, 0, 0) (4 * i + 2) = x.1 (24, 0, 0) i ∧ τ.1 (51, 0, 0) (4 * i + 3) = x.1 (23, 0, 0) i) : F_X11_isRight (nI i) τ = some (if soF (τ.1 (43, 0, 0)) x i then 1 else 0, τ) := by
  obtain ⟨⟨s, s1, s2, s3⟩, e0, ⟨t, t1, t2, t3⟩, e1, hb, e2, e3⟩ := he
  unfold soF
  rw [s3, t3, nI_clamp (by omega), nI_clamp (by omega)]
  rw [s3] at e0
  rw [t3] at e1
  have lb : ∀ b, F_X11_lifeAt (nI s) (nI t) b τ = some (nI (lfN (τ.1 (43, 0, 0)) s t b), τ) := m_lifeAt hR s1 s2 t2
  rcases hb with z | z <;> rw [z] at e2 <;> rw [z] <;> by_cases z3 : nI (lfN (τ.1 (43, 0, 0)) s t (x.1 (24, 0, 0) i)) = x.1 (23, 0, 0) i <;> rw [z] at z3 <;>
    simp (disch := omega) only [F_X11_isRight, i_lm, i_al, inb_i, ck_i, nI_clamp, nam_i, e0, e1, e2, e3, ft01, ft10, ↓reduceIte, lb, bd_i, z3, decide_true, decide_false, Bool.false_eq_true]
theorem x_rightL {x : St} {n : Nat} {f : Nat → Bool} (hn : x.1 (20, 0, 0) 4 = nI n) (h12 : n ≤ 12) (hf : ∀ i, i < n → F_X9_isSo (nI i) 0 (x.1 (4, 0, 0) 0) x = some (if f i then 1 else 0, x)) : ∀ (k i fu : Nat), i + k = n → k < fu → L_X10_right_4 fu (nI (rgN f i)) (nI i) x = some (nI (rgN f n), x) := by
  intro k
  induction k with
  | zero =>
    intro i fu hk hfu
    obtain ⟨g, rfl⟩ : ∃ g, fu = g + 1 := ⟨fu - 1, by omega⟩
    have z : n ≤ i := by omega
    have e : i = n := by omega
    subst e
    simp (disch := omega) only [L_X10_right_4, hn, i_le, z, ↓reduceIte]
  | succ k ih =>
    intro i fu hk hfu
    obtain ⟨g, rfl⟩ : ∃ g, fu = g + 1 := ⟨fu - 1, by omega⟩
    have z : ¬ n ≤ i := by omega
    have s1 := hf i (by omega)
    have hlt := rgN_lt f i
    rw [← ih (i + 1) g (by omega) (by omega), rgN]
    by_cases z2 : f i = true
    · rw [if_pos z2] at s1
      rw [if_pos z2, ← or_pw (by omega) hlt, ← sh_pw i (by omega)]
      simp (disch := omega) only [L_X10_right_4.eq_2, hn, i_le, z, ↓reduceIte, x_valueL, bd_i, s1, nam_i, ft10, i_al]
    · rw [if_neg z2] at s1
      rw [if_neg z2]
      simp (disch := omega) only [L_X10_right_4.eq_2, hn, i_le, z, ↓reduceIte, x_valueL, bd_i, s1, nam_i, i_al, Nat.add_zero]
theorem m_rightL {τ : St} {n : Nat} {f : Nat → Bool} (hn : τ.1 (40, 0, 0) 23 = nI n) (h12 : n ≤ 12) (hf : ∀ i, i < n → F_X11_isRight (nI i) τ = some (if f i then 1 else 0, τ)) : ∀ (k i fu : Nat), i + k = n → k < fu → L_X11_right_4 fu (nI (rgN f i)) (nI i) τ = some (nI (rgN f n), τ) := by
  intro k
  induction k with
  | zero =>
    intro i fu hk hfu
    obtain ⟨g, rfl⟩ : ∃ g, fu = g + 1 := ⟨fu - 1, by omega⟩
    have z : n ≤ i := by omega
    have e : i = n := by omega
    subst e
    simp (disch := omega) only [L_X11_right_4, hn, i_le, z, ↓reduceIte]
  | succ k ih =>
    intro i fu hk hfu
    obtain ⟨g, rfl⟩ : ∃ g, fu = g + 1 := ⟨fu - 1, by omega⟩
    have z : ¬ n ≤ i := by omega
    have s1 := hf i (by omega)
    have hlt := rgN_lt f i
    rw [← ih (i + 1) g (by omega) (by omega), rgN]
    by_cases z2 : f i = true
    · rw [if_pos z2] at s1
      rw [if_pos z2, ← or_pw (by omega) hlt, ← sh_pw i (by omega)]
      simp (disch := omega) only [L_X11_right_4.eq_2, hn, i_le, z, ↓reduceIte, bd_i, s1, nam_i, ft10, i_al]
    · rw [if_neg z2] at s1
      rw [if_neg z2]
      simp (disch := omega) only [L_X11_right_4.eq_2, hn, i_le, z, ↓reduceIte, bd_i, s1, nam_i, i_al, Int32.or_zero, Nat.add_zero]
theorem s_right : Sim F_X10_right F_X11_right := by
  intro x m h
  have hR := h.2.2.1.2
  have hRe := h.2.2.1.1
  obtain ⟨n, h12, n1, n2, hv⟩ := h.2.2.2.2.2.1
  refine Sim_same (r := nI (rgN (soF (x.1 (4, 0, 0)) x) n)) h ?_ ?_
  · refine x_rightL (f := soF (x.1 (4, 0, 0)) x) n1 h12 (fun i hi => ?_) n 0 FU (by omega) (by unfold FU; omega)
    have := x_isSo (v := x.1 (4, 0, 0) 0) hR n1 h12 hi (hv i hi).1 (hv i hi).2.2.1
    rw [upd_id] at this
    exact this
  · refine m_rightL (f := soF (x.1 (4, 0, 0)) x) n2 h12 (fun i hi => ?_) n 0 FU (by omega) (by unfold FU; omega)
    have := m_isRight (x := x) (τ := m) (by rw [hRe]; exact hR) (by omega) (hv i hi)
    rw [hRe] at this
    exact this
theorem x_allSo {x : St} {n : Nat} {v : Int32} {f : Nat → Bool} (hn : x.1 (20, 0, 0) 4 = nI n) (h12 : n ≤ 12) (hf : ∀ i, i < n → F_X9_isSo (nI i) 0 v x = some (if f i then 1 else 0, x)) : ∀ (k i fu : Nat), i + k = n → k < fu → ∃ r, L_X9_allSo_2 0 v fu (nI i) x = some (r, x) ∧ (¬ r = 0 ↔ ∀ j, i ≤ j → j < n → f j = true) := by
  intro k
  induction k with
  | zero =>
    intro i fu hk hfu
    obtain ⟨g, rfl⟩ : ∃ g, fu = g + 1 := ⟨fu - 1, by omega⟩
    have z : n ≤ i := by omega
    refine ⟨1, by simp (disch := omega) only [L_X9_allSo_2, hn, i_le, z, ↓reduceIte], fun _ j h1 h2 => absurd h2 (by omega), fun _ => by decide⟩
  | succ k ih =>
    intro i fu hk hfu
    obtain ⟨g, rfl⟩ : ∃ g, fu = g + 1 := ⟨fu - 1, by omega⟩
    have z : ¬ n ≤ i := by omega
    have s1 := hf i (by omega)
    by_cases z2 : f i = true
    · rw [if_pos z2] at s1
      obtain ⟨r, e1, e2⟩ := ih (i + 1) g (by omega) (by omega)
      refine ⟨r, ?_, ?_⟩
      · rw [← e1]
        simp (disch := omega) only [L_X9_allSo_2.eq_2, hn, i_le, z, ↓reduceIte, bd_i, s1, nam_i, ft10, i_al]
      · rw [e2]
        constructor
        · intro h j h1 h2
          rcases Nat.lt_or_ge i j with q | q
          · exact h j q h2
          · rw [show j = i by omega]; exact z2
        · intro h j h1 h2
          exact h j (by omega) h2
    · rw [if_neg z2] at s1
      refine ⟨0, ?_, fun h => absurd rfl h, fun h => absurd (h i (by omega) (by omega)) z2⟩
      simp (disch := omega) only [L_X9_allSo_2.eq_2, hn, i_le, z, ↓reduceIte, bd_i, s1]
theorem x_fitsL {x : St} {c1 : Int32} {p : Nat → Bool} (hl : ∀ u, 1 ≤ u → u ≤ 99 → ∃ r, F_X9_allSo 0 (nI u) x = some (r, x) ∧ (¬ r = 0 ↔ p u = true)) (kx : Int32 → Int32 → Int32 → St → Option (Int32 × St)) : ∀ (k h fu : Nat) (v5 v6 v7 : Int32), h + k = 100 → 1 ≤ h → k < fu → L_X10_fits_38 c1 fu v5 v6 v7 (nI h) x kx = kx (htL p k h v5 v6 v7).1 (htL p k h v5 v6 v7).2.1 (htL p k h v5 v6 v7).2.2 x := by
  intro k
  have r99 : roC 101 0 = (99 : Int32) := rfl
  induction k with
  | zero =>
    intro h fu v5 v6 v7 hk h1 hfu
    obtain ⟨g, rfl⟩ : ∃ g, fu = g + 1 := ⟨fu - 1, by omega⟩
    have z : 99 < h := by omega
    simp (disch := omega) only [L_X10_fits_38, inb_l, ck_i, r99, i_ltl, z, ↓reduceIte, htL]
  | succ k ih =>
    intro h fu v5 v6 v7 hk h1 hfu
    obtain ⟨g, rfl⟩ : ∃ g, fu = g + 1 := ⟨fu - 1, by omega⟩
    have z : ¬ 99 < h := by omega
    obtain ⟨r, e1, e2⟩ := hl h h1 (by omega)
    have ih' : ∀ a b c, L_X10_fits_38 c1 g a b c (nI (h + 1)) x kx = _ := fun a b c => ih (h + 1) g a b c (by omega) (by omega) (by omega)
    rw [htL]
    by_cases z2 : p h = true
    · rw [if_pos z2]
      have z3 := e2.mpr z2
      by_cases z4 : v6 = -4 <;> simp (disch := omega) only [L_X10_fits_38, inb_l, ck_i, r99, i_ltl, z, ↓reduceIte, e1, bd_i, nam_i, z3, z4, i_al, ih']
    · rw [if_neg z2]
      have z3 : r = 0 := Decidable.of_not_not (fun e => z2 (e2.mp e))
      simp (disch := omega) only [L_X10_fits_38, inb_l, ck_i, r99, i_ltl, z, ↓reduceIte, e1, bd_i, nam_i, z3, i_al, ih']
theorem uI_uI {σ : St} {d : Id3} {k : Nat} {v w : Int32} : uI (uI σ d k v) d k w = uI σ d k w := by
  rw [uI_R, uI_R, uI_R, uR_R, uR_self, upd_upd]
theorem uI_id {σ : St} {d : Id3} {k : Nat} : uI σ d k (σ.1 d k) = σ := by
  rw [uI_R, upd_id, uR_id]
theorem m_fitsL {m : St} {c1 c2 : Int32} {n : Nat} {p : Nat → Bool} (hn : m.1 (40, 0, 0) 23 = nI n) (h12 : n ≤ 12) (hl : ∀ u, 1 ≤ u → u ≤ 99 → ∃ r, F_X11_right (uI m (43, 0, 0) 0 (nI u)) = some (r, uI m (43, 0, 0) 0 (nI u)) ∧ (r = nI (2 ^ n - 1) ↔ p u = true)) (kx : Int32 → Int32 → Int32 → St → Option (Int32 × St)) : ∀ (k h fu : Nat) (w v5 v6 v7 : Int32), h + k = 100 → 1 ≤ h → k < fu → ∃ w', L_X11_fits_53 c1 c2 fu v5 v6 v7 (nI h) (uI m (43, 0, 0) 0 w) kx = kx (htL p k h v5 v6 v7).1 (htL p k h v5 v6 v7).2.1 (htL p k h v5 v6 v7).2.2 (uI m (43, 0, 0) 0 w') := by
  intro k
  have hp : 1 ≤ 2 ^ n := Nat.one_le_two_pow
  have hp2 : 2 ^ n ≤ 2 ^ 12 := Nat.pow_le_pow_right (by omega) h12
  have em : ((1 : Int32) <<< (nI n &&& 31)) - 1 = nI (2 ^ n - 1) := by
    rw [sh_pw n h12]; exact pk_sub (b := 1) hp
  have e23 : ∀ w, (uI m (43, 0, 0) 0 w).1 (40, 0, 0) 23 = nI n := fun w => by rw [rd_t (by omega), hn]
  induction k with
  | zero =>
    intro h fu w v5 v6 v7 hk h1 hfu
    obtain ⟨g, rfl⟩ : ∃ g, fu = g + 1 := ⟨fu - 1, by omega⟩
    have z : 99 < h := by omega
    refine ⟨w, ?_⟩
    simp (disch := omega) only [L_X11_fits_53, i_ltl, z, ↓reduceIte, htL]
  | succ k ih =>
    intro h fu w v5 v6 v7 hk h1 hfu
    obtain ⟨g, rfl⟩ : ∃ g, fu = g + 1 := ⟨fu - 1, by omega⟩
    have z : ¬ 99 < h := by omega
    obtain ⟨r, e1, e2⟩ := hl h h1 (by omega)
    have ih' := fun a b c => ih (h + 1) g (nI h) a b c (by omega) (by omega) (by omega)
    rw [htL]
    by_cases z2 : p h = true
    · rw [if_pos z2]
      have z3 := e2.mpr z2
      obtain ⟨w', hw⟩ := ih' (v5 + 1) (if v6 = -4 then nI h else v6) (nI h)
      refine ⟨w', ?_⟩
      rw [← hw]
      by_cases z4 : v6 = -4 <;> simp (disch := omega) only [L_X11_fits_53.eq_2, inb_l, ck_i, i_ltl, z, ↓reduceIte, uI_uI, e1, bd_i, nam_i, e23, em, z3, z4, i_al]
    · rw [if_neg z2]
      have z3 : ¬ r = nI (2 ^ n - 1) := fun e => z2 (e2.mp e)
      obtain ⟨w', hw⟩ := ih' v5 v6 v7
      refine ⟨w', ?_⟩
      rw [← hw]
      simp (disch := omega) only [L_X11_fits_53.eq_2, inb_l, ck_i, i_ltl, z, ↓reduceIte, uI_uI, e1, bd_i, nam_i, e23, em, z3, i_al]
theorem s_fits (a : Int32) : Sim (F_X10_fits a) (F_X11_fits a) := by
  intro x m h
  have hR := h.2.2.1.2
  have hRe := h.2.2.1.1
  obtain ⟨n, h12, n1, n2, hv⟩ := h.2.2.2.2.2.1
  by_cases ha : IV 0 2 a
  · obtain ⟨w, w1, w2, rfl⟩ := id ha
    obtain ⟨dn, d1, d2, d3⟩ := hR.2.1
    generalize hp : (fun u => decide (rgN (soF (upd (x.1 (4, 0, 0)) 0 (nI u)) x) n = 2 ^ n - 1)) = p
    have hpu : ∀ u, (p u = true) = (rgN (soF (upd (x.1 (4, 0, 0)) 0 (nI u)) x) n = 2 ^ n - 1) := fun u => by rw [← hp]; simp
    have hx : ∀ u, 1 ≤ u → u ≤ 99 → ∃ r, F_X9_allSo 0 (nI u) x = some (r, x) ∧ (¬ r = 0 ↔ p u = true) := by
      intro u u1 u2
      obtain ⟨r, e1, e2⟩ := x_allSo (v := nI u) (f := soF (upd (x.1 (4, 0, 0)) 0 (nI u)) x) n1 h12 (fun i hi => x_isSo hR n1 h12 hi (hv i hi).1 (hv i hi).2.2.1) n 0 FU (by omega) (by unfold FU; omega)
      refine ⟨r, e1, ?_⟩
      rw [e2, hpu, rgN_all]
      exact ⟨fun h j hj => h j (by omega) hj, fun h j _ hj => h j hj⟩
    have hm : ∀ u, 1 ≤ u → u ≤ 99 → ∃ r, F_X11_right (uI m (43, 0, 0) 0 (nI u)) = some (r, uI m (43, 0, 0) 0 (nI u)) ∧ (r = nI (2 ^ n - 1) ↔ p u = true) := by
      intro u u1 u2
      have e43 : (uI m (43, 0, 0) 0 (nI u)).1 (43, 0, 0) = upd (x.1 (4, 0, 0)) 0 (nI u) := by rw [rd_e, hRe]
      refine ⟨nI (rgN (soF (upd (x.1 (4, 0, 0)) 0 (nI u)) x) n), ?_, ?_⟩
      · refine m_rightL (f := soF (upd (x.1 (4, 0, 0)) 0 (nI u)) x) (by rw [rd_t (by omega), n2]) h12 (fun i hi => ?_) n 0 FU (by omega) (by unfold FU; omega)
        have := m_isRight (x := x) (τ := uI m (43, 0, 0) 0 (nI u)) (i := i) (by rw [e43]; exact RG_u hR u1 u2) (by omega) (by rw [rd_t (by omega)]; exact hv i hi)
        rw [e43] at this
        exact this
      · have hp2 : 2 ^ n ≤ 2 ^ 12 := Nat.pow_le_pow_right (by omega) h12
        have := rgN_lt (soF (upd (x.1 (4, 0, 0)) 0 (nI u)) x) n
        rw [i_eq (by omega) (by omega), hpu]
    have hu : ∃ u0, 1 ≤ u0 ∧ u0 ≤ 99 ∧ u0 = (if 1 ≤ dn then dn else 1) := by
      refine ⟨_, ?_, ?_, rfl⟩ <;> split <;> omega
    obtain ⟨u0, u1, u2, u3⟩ := hu
    refine Sim_same (r := if nI w = 0 then (htL p (100 - u0) u0 0 (-4) (-4)).1 else if nI w = 1 then (htL p (100 - u0) u0 0 (-4) (-4)).2.1 else (htL p (100 - u0) u0 0 (-4) (-4)).2.2) h ?_ ?_
    · have r1 : roC 100 0 = (1 : Int32) := rfl
      have e : (if (roC 100 0) < nI dn then nI dn else (roC 100 0)) = nI u0 := by
        have c1 : ((1 : Int32) < nI dn) = (1 < dn) := i_ltl (by decide) (by omega)
        rw [r1, u3]
        by_cases z : 1 < dn
        · rw [if_pos (by rw [c1]; exact z), if_pos (by omega)]
        · rw [if_neg (by rw [c1]; exact z)]
          by_cases z2 : 1 ≤ dn
          · rw [if_pos z2, show dn = 1 by omega]; rfl
          · rw [if_neg z2]; rfl
      rw [F_X10_fits, x_wt (by omega) (by omega) (by omega), bd_i, if_neg (by decide), inb_l (by omega) (by omega), ck_i, x_valueL (by omega), bd_i, d3, nam_i, e]
      refine (x_fitsL hx _ (100 - u0) u0 FU 0 (-4) (-4) (by omega) u1 (by unfold FU; omega)).trans ?_
      split
      · rfl
      · split <;> rfl
    · have c1 : ((1 : Int32) ≤ nI dn) = (1 ≤ dn) := i_lel (by decide) (by omega)
      have d3' : m.1 (43, 0, 0) 1 = nI dn := by rw [hRe, d3]
      have em : uI m (43, 0, 0) 0 (m.1 (43, 0, 0) 0) = m := uI_id
      obtain ⟨w', hw⟩ := m_fitsL (c1 := nI w) (c2 := m.1 (43, 0, 0) 0) n2 h12 hm (fun (y29 : Int32) (y30 : Int32) (y31 : Int32) (σ28 : St) => ck true (nam (uI σ28 (43, 0, 0) 0 (m.1 (43, 0, 0) 0)) fun σ33 => (if nI w = 0 then some (y29, σ33) else (if nI w = (1 : Int32) then some (y30, σ33) else some (y31, σ33))))) (100 - u0) u0 FU (m.1 (43, 0, 0) 0) 0 (-4) (-4) (by omega) u1 (by unfold FU; omega)
      rw [em, ck_i, nam_i, uI_uI, em] at hw
      rw [F_X11_fits, m_wt (by omega) (by omega) (by omega), bd_i, if_neg (by decide), inb_l (by omega) (by omega), ck_i, nam_i, inb_l (by omega) (by omega), ck_i, nam_i, ck_i, d3']
      have fin : (if nI w = 0 then some ((htL p (100 - u0) u0 0 (-4) (-4)).1, m) else (if nI w = (1 : Int32) then some ((htL p (100 - u0) u0 0 (-4) (-4)).2.1, m) else some ((htL p (100 - u0) u0 0 (-4) (-4)).2.2, m))) = some (if nI w = 0 then (htL p (100 - u0) u0 0 (-4) (-4)).1 else if nI w = 1 then (htL p (100 - u0) u0 0 (-4) (-4)).2.1 else (htL p (100 - u0) u0 0 (-4) (-4)).2.2, m) := by
        split
        · rfl
        · split <;> rfl
      rw [← fin, ← hw]
      by_cases z : 1 ≤ dn
      · rw [if_pos (by rw [c1]; exact z), show u0 = dn by rw [u3, if_pos z]]
      · rw [if_neg (by rw [c1]; exact z), show u0 = 1 by rw [u3, if_neg z]]
        rfl
  · refine Sim_same (r := -1) h ?_ ?_
    · rw [F_X10_fits, x_wf ha (by omega) (by omega), bd_i, if_pos rfl]
    · rw [F_X11_fits, m_wf ha (by omega) (by omega), bd_i, if_pos rfl]
