/-! cools -/
def clS (dn j h : Nat) : Nat := if h < dn then h - (1 + h / j) else h - 1
def clL (dn j t : Nat) : Nat → Nat → Int32 → Int32 → Int32 × Int32
  | 0, _, a, b => (a, b)
  | k + 1, h, a, b => if h ≤ t then (a, b) else clL dn j t k (clS dn j h) (a + 1) (if h < dn then b else b + 1)
theorem max0 {h z : Nat} (hh : h < 2 ^ 30) (hz : z < 2 ^ 30) : (if (0 : Int32) < nI h - nI z then nI h - nI z else 0) = nI (h - z) ∧ (if 0 ≤ nI h - nI z then nI h - nI z else 0) = nI (h - z) := by
  rcases Nat.lt_or_ge h z with q | q
  · have a1 := pk_sneg hz q
    have a2 : ¬ (0 : Int32) < nI h - nI z := by
      rw [Int32.lt_iff_toInt_lt] at a1 ⊢
      have : (0 : Int32).toInt = 0 := by decide
      omega
    have a3 : ¬ 0 ≤ nI h - nI z := by
      rw [Int32.lt_iff_toInt_lt] at a1
      rw [Int32.le_iff_toInt_le]
      have : (0 : Int32).toInt = 0 := by decide
      omega
    have e : h - z = 0 := by omega
    rw [if_neg a2, if_neg a3, e]
    exact ⟨rfl, rfl⟩
  · rw [pk_sub q]
    refine ⟨?_, ?_⟩
    · rcases Nat.eq_zero_or_pos (h - z) with w | w
      · rw [w]; rfl
      · rw [if_pos (show (0 : Int32) < nI (h - z) from nI_lt w (by omega))]
    · rw [if_pos (nI_pos' (by omega))]
theorem x_cl {x : St} {dn j t : Nat} {c3 : Int32} (h1 : x.1 (4, 0, 0) 1 = nI dn) (hdn : dn ≤ 99) (h6 : x.1 (4, 0, 0) 6 = nI j) (hj : 1 ≤ j) (hj2 : j ≤ 50) (ht : t < 100) (kx : Int32 → Int32 → St → Option (Int32 × St)) : ∀ (k h i fu : Nat) (a b : Int32), h ≤ k → k < fu → i + h ≤ 99 → L_X10_cools_37 (nI t) c3 fu (nI h) a b (nI i) x kx = kx (clL dn j t k h a b).1 (clL dn j t k h a b).2 x := by
  intro k
  induction k with
  | zero =>
    intro h i fu a b hk hf hi
    obtain ⟨f, rfl⟩ : ∃ f, fu = f + 1 := ⟨fu - 1, by omega⟩
    have z : ¬ 99 < i := by omega
    have z2 : h ≤ t := by omega
    simp (disch := omega) only [L_X10_cools_37, i_ltl, z, i_le, z2, ↓reduceIte, clL]
  | succ k ih =>
    intro h i fu a b hk hf hi
    obtain ⟨f, rfl⟩ : ∃ f, fu = f + 1 := ⟨fu - 1, by omega⟩
    have z : ¬ 99 < i := by omega
    by_cases z2 : h ≤ t
    · simp (disch := omega) only [L_X10_cools_37, i_ltl, z, i_le, z2, ↓reduceIte, clL]
    · have hdj : h / j ≤ h := Nat.div_le_self h j
      by_cases z3 : h < dn
      · have hs : clS dn j h = h - (1 + h / j) := if_pos z3
        have e : (1 : Int32) + nI h / nI j = nI (1 + h / j) := by rw [pk_div (by omega) (by omega) (by omega), i_la]
        have lt := x_lossT (q := 0) (σ := x) (h := nI h) h6 (by omega) (by omega)
        rw [h6, e] at lt
        clear e
        generalize h / j = w at *
        rw [clL, if_neg z2, if_pos z3, hs, ← ih (h - (1 + w)) (i + 1) f (a + 1) b (by omega) (by omega) (by omega)]
        simp (disch := omega) only [L_X10_cools_37, i_ltl, z, i_le, z2, ↓reduceIte, x_floats, h1, i_lt, z3, bd_i, nam_i, lt, (max0 (show h < 2 ^ 30 by omega) (show 1 + w < 2 ^ 30 by omega)).1, i_al]
      · have hs : clS dn j h = h - 1 := if_neg z3
        have e : nI h + (-1) = nI (h - 1) := sb_m1 (by omega)
        rw [clL, if_neg z2, if_neg z3, hs, ← ih (h - 1) (i + 1) f (a + 1) (b + 1) (by omega) (by omega) (by omega)]
        simp (disch := omega) only [L_X10_cools_37, i_ltl, z, i_le, z2, ↓reduceIte, x_floats, h1, i_lt, z3, bd_i, nam_i, ft10, e, i_al]
theorem m_cl {m : St} {dn j t : Nat} {c3 : Int32} (h1 : m.1 (43, 0, 0) 1 = nI dn) (hdn : dn ≤ 99) (h6 : m.1 (43, 0, 0) 6 = nI j) (hj : 1 ≤ j) (hj2 : j ≤ 50) (ht : t < 100) (kx : Int32 → Int32 → St → Option (Int32 × St)) : ∀ (k h fu : Nat) (a b : Int32), h ≤ k → k < fu → h ≤ 99 → L_X11_cools_35 (nI t) c3 fu (nI h) a b m kx = kx (clL dn j t k h a b).1 (clL dn j t k h a b).2 m := by
  intro k
  induction k with
  | zero =>
    intro h fu a b hk hf hi
    obtain ⟨f, rfl⟩ : ∃ f, fu = f + 1 := ⟨fu - 1, by omega⟩
    have z2 : h ≤ t := by omega
    simp (disch := omega) only [L_X11_cools_35, i_le, z2, ↓reduceIte, clL]
  | succ k ih =>
    intro h fu a b hk hf hi
    obtain ⟨f, rfl⟩ : ∃ f, fu = f + 1 := ⟨fu - 1, by omega⟩
    have hne : ¬ nI j = 0 := nI_ne0 (by omega) (by omega)
    by_cases z2 : h ≤ t
    · simp (disch := omega) only [L_X11_cools_35, i_le, z2, ↓reduceIte, clL]
    · have hdj : h / j ≤ h := Nat.div_le_self h j
      by_cases z3 : h < dn
      · have hs : clS dn j h = h - (1 + h / j) := if_pos z3
        have e : (1 : Int32) + nI h / nI j = nI (1 + h / j) := by rw [pk_div (by omega) (by omega) (by omega), i_la]
        generalize h / j = w at hs e hdj
        have hm := (max0 (show h < 2 ^ 30 by omega) (show 1 + w < 2 ^ 30 by omega)).2
        rw [clL, if_neg z2, if_pos z3, hs, ← ih (h - (1 + w)) f (a + 1) b (by omega) (by omega) (by omega), ← hm]
        by_cases z4 : 0 ≤ nI h - nI (1 + w) <;> simp (disch := omega) only [L_X11_cools_35, i_le, z2, ↓reduceIte, inb_l, ck_i, nam_i, h1, i_lt, z3, m_fl0, bd_i, h6, hne, not_false_eq_true, decide_true, e, z4, Int32.add_zero]
      · have hs : clS dn j h = h - 1 := if_neg z3
        have e : nI h - 1 = nI (h - 1) := pk_sub (b := 1) (by omega)
        have z4 : 0 ≤ nI (h - 1) := nI_pos' (by omega)
        rw [clL, if_neg z2, if_neg z3, hs, ← ih (h - 1) f (a + 1) (b + 1) (by omega) (by omega) (by omega)]
        simp (disch := omega) only [L_X11_cools_35, i_le, z2, ↓reduceIte, inb_l, ck_i, nam_i, h1, i_lt, z3, m_fl1, bd_i, ft10, e, z4]
theorem s_cools (a b c : Int32) : Sim (F_X10_cools a b c) (F_X11_cools a b c) := by
  intro x m h
  have hR := h.2.2.1.2
  have hRe := h.2.2.1.1
  by_cases ha : IV 0 99 a
  · obtain ⟨s, s1, s2, rfl⟩ := id ha
    by_cases hb : IV 0 99 b
    · obtain ⟨t, t1, t2, rfl⟩ := id hb
      by_cases hc : IV 0 1 c
      · obtain ⟨w, w1, w2, rfl⟩ := id hc
        obtain ⟨dn, d1, d2, d3⟩ := hR.2.1
        obtain ⟨j, j1, j2, j3⟩ := hR.2.2.2.2.2.1
        refine Sim_same (r := if nI w = 0 then (clL dn j t 99 s 0 0).1 else (clL dn j t 99 s 0 0).2) h ?_ ?_
        · rw [F_X10_cools, x_heatt (by omega), bd_i, if_neg (by decide), x_heatt (by omega), bd_i, if_neg (by decide), x_wt (by omega) (by omega) (by omega), bd_i, if_neg (by decide)]
          refine (x_cl d3 d2 j3 j1 j2 (by omega) _ 99 s 0 FU 0 0 s2 (by unfold FU; omega) (by omega)).trans ?_
          split <;> rfl
        · rw [F_X11_cools, m_heatt (by omega), bd_i, if_neg (by decide), m_heatt (by omega), bd_i, if_neg (by decide), m_wt (by omega) (by omega) (by omega), bd_i, if_neg (by decide)]
          refine (m_cl (by rw [hRe]; exact d3) d2 (by rw [hRe]; exact j3) j1 j2 (by omega) _ 99 s FU 0 0 s2 (by unfold FU; omega) (by omega)).trans ?_
          split <;> rfl
      · refine Sim_same (r := -1) h ?_ ?_
        · rw [F_X10_cools, x_heatt (by omega), bd_i, if_neg (by decide), x_heatt (by omega), bd_i, if_neg (by decide), x_wf hc (by omega) (by omega), bd_i, if_pos rfl]
        · rw [F_X11_cools, m_heatt (by omega), bd_i, if_neg (by decide), m_heatt (by omega), bd_i, if_neg (by decide), m_wf hc (by omega) (by omega), bd_i, if_pos rfl]
    · refine Sim_same (r := -1) h ?_ ?_
      · rw [F_X10_cools, x_heatt (by omega), bd_i, if_neg (by decide), x_heatf hb, bd_i, if_pos rfl]
      · rw [F_X11_cools, m_heatt (by omega), bd_i, if_neg (by decide), m_heatf hb, bd_i, if_pos rfl]
  · refine Sim_same (r := -1) h ?_ ?_
    · rw [F_X10_cools, x_heatf ha, bd_i, if_pos rfl]
    · rw [F_X11_cools, m_heatf ha, bd_i, if_pos rfl]
