/-! the hump, the heats for a life -/
def lgH (f : Nat → Nat) : Nat → Nat → Nat → Nat
  | 0, _, a => a
  | k + 1, h, a => lgH f k (h + 1) (if f h ≤ f a then a else h)
def shL (f : Nat → Nat) : Nat → Nat → Nat → Nat
  | 0, _, a => a
  | k + 1, h, a => shL f k (h + 1) (if f h < a then f h else a)
def fsL (f : Nat → Nat) : Nat → Nat → Int32
  | 0, _ => -4
  | k + 1, h => if f h ≤ f (h - 1) then fsL f k (h + 1) else nI h
theorem lgH_b (f : Nat → Nat) : ∀ k h a, a ≤ 99 → h + k ≤ 100 → lgH f k h a ≤ 99 := by
  intro k
  induction k with
  | zero => intro h a ha _; exact ha
  | succ k ih =>
    intro h a ha hk
    rw [lgH]
    exact ih _ _ (by split <;> omega) (by omega)
theorem shL_b (f : Nat → Nat) {B : Nat} (hf : ∀ h, h ≤ 99 → f h < B) : ∀ k h a, a < B → h + k ≤ 100 → shL f k h a < B := by
  intro k
  induction k with
  | zero => intro h a ha _; exact ha
  | succ k ih =>
    intro h a ha hk
    rw [shL]
    exact ih _ _ (by split; exact hf h (by omega); exact ha) (by omega)
theorem x_lgH {x : St} {c1 c2 : Int32} {f : Nat → Nat} (hl : ∀ h, h ≤ 99 → F_X5_lifeOf 0 c1 (nI h) c2 x = some (nI (f h), x)) (hf : ∀ h, h ≤ 99 → f h < 1000) : ∀ (k h a fu : Nat), h + k = 100 → a ≤ 99 → k < fu → L_X5_longestHeat_5 0 c1 c2 fu (nI a) (nI h) x = some (nI (lgH f k h a), x) := by
  intro k
  induction k with
  | zero =>
    intro h a fu hk ha hfu
    obtain ⟨g, rfl⟩ : ∃ g, fu = g + 1 := ⟨fu - 1, by omega⟩
    have z : 99 < h := by omega
    simp (disch := omega) only [L_X5_longestHeat_5, i_ltl, z, ↓reduceIte, lgH]
  | succ k ih =>
    intro h a fu hk ha hfu
    obtain ⟨g, rfl⟩ : ∃ g, fu = g + 1 := ⟨fu - 1, by omega⟩
    have z : ¬ 99 < h := by omega
    have f1 := hf h (by omega)
    have f2 := hf a (by omega)
    have l1 := hl h (by omega)
    have l2 := hl a (by omega)
    rw [lgH]
    by_cases z2 : f h ≤ f a
    · rw [if_pos z2, ← ih (h + 1) a g (by omega) (by omega) (by omega)]
      simp (disch := omega) only [L_X5_longestHeat_5, i_ltl, z, ↓reduceIte, l1, l2, bd_i, nam_i, i_le, z2, i_al]
    · rw [if_neg z2, ← ih (h + 1) h g (by omega) (by omega) (by omega)]
      simp (disch := omega) only [L_X5_longestHeat_5, i_ltl, z, ↓reduceIte, l1, l2, bd_i, nam_i, i_le, z2, i_al]
theorem x_shL {x : St} {c1 c2 : Int32} {f : Nat → Nat} (hl : ∀ h, h ≤ 99 → F_X5_lifeOf 0 c1 (nI h) c2 x = some (nI (f h), x)) (hf : ∀ h, h ≤ 99 → f h < 1000) : ∀ (k h a fu : Nat), h + k = 100 → a < 1000 → k < fu → L_X5_shortestLife_11 0 c1 c2 fu (nI a) (nI h) x = some (nI (shL f k h a), x) := by
  intro k
  induction k with
  | zero =>
    intro h a fu hk ha hfu
    obtain ⟨g, rfl⟩ : ∃ g, fu = g + 1 := ⟨fu - 1, by omega⟩
    have z : 99 < h := by omega
    simp (disch := omega) only [L_X5_shortestLife_11, i_ltl, z, ↓reduceIte, shL]
  | succ k ih =>
    intro h a fu hk ha hfu
    obtain ⟨g, rfl⟩ : ∃ g, fu = g + 1 := ⟨fu - 1, by omega⟩
    have z : ¬ 99 < h := by omega
    have f1 := hf h (by omega)
    have l1 := hl h (by omega)
    rw [shL]
    by_cases z2 : f h < a
    · rw [if_pos z2, ← ih (h + 1) (f h) g (by omega) (by omega) (by omega)]
      simp (disch := omega) only [L_X5_shortestLife_11, i_ltl, z, ↓reduceIte, l1, bd_i, nam_i, i_lt, z2, i_al]
    · rw [if_neg z2, ← ih (h + 1) a g (by omega) (by omega) (by omega)]
      simp (disch := omega) only [L_X5_shortestLife_11, i_ltl, z, ↓reduceIte, l1, bd_i, nam_i, i_lt, z2, i_al]
theorem x_fsL {x : St} {c1 c2 : Int32} {f : Nat → Nat} (hl : ∀ h, h ≤ 99 → F_X5_lifeOf 0 c1 (nI h) c2 x = some (nI (f h), x)) (hf : ∀ h, h ≤ 99 → f h < 1000) : ∀ (k h fu : Nat), h + k = 100 → 1 ≤ h → k < fu → L_X5_firstLonger_2 0 c1 c2 fu (nI h) x = some (fsL f k h, x) := by
  intro k
  induction k with
  | zero =>
    intro h fu hk ha hfu
    obtain ⟨g, rfl⟩ : ∃ g, fu = g + 1 := ⟨fu - 1, by omega⟩
    have z : 99 < h := by omega
    simp (disch := omega) only [L_X5_firstLonger_2, i_ltl, z, ↓reduceIte, fsL]
  | succ k ih =>
    intro h fu hk ha hfu
    obtain ⟨g, rfl⟩ : ∃ g, fu = g + 1 := ⟨fu - 1, by omega⟩
    have z : ¬ 99 < h := by omega
    have f1 := hf h (by omega)
    have f2 := hf (h - 1) (by omega)
    have l1 := hl h (by omega)
    have l2 := hl (h - 1) (by omega)
    have e : nI h - 1 = nI (h - 1) := pk_sub (b := 1) (by omega)
    rw [fsL]
    by_cases z2 : f h ≤ f (h - 1)
    · rw [if_pos z2, ← ih (h + 1) g (by omega) (by omega) (by omega)]
      simp (disch := omega) only [L_X5_firstLonger_2, i_ltl, z, ↓reduceIte, l1, e, l2, bd_i, nam_i, i_le, z2, i_al]
    · rw [if_neg z2]
      simp (disch := omega) only [L_X5_firstLonger_2, i_ltl, z, ↓reduceIte, l1, e, l2, bd_i, nam_i, i_le, z2, i_al]
theorem m_hmp {m : St} {c1 c2 c3 : Int32} {f : Nat → Nat} (hl : ∀ h, h ≤ 99 → F_X11_lifeAt c1 (nI h) c2 m = some (nI (f h), m)) (hf : ∀ h, h ≤ 99 → f h < 1000) (kx : Int32 → Int32 → Int32 → Int32 → St → Option (Int32 × St)) : ∀ (k h a w fu : Nat) (v7 : Int32), h + k = 100 → 1 ≤ h → a ≤ 99 → w ≤ 100000 → k < fu → L_X11_hump_42 c1 c2 c3 fu (nI a) (nI (f a)) (nI w) v7 (nI (f (h - 1))) (nI h) m kx = kx (nI (lgH f k h a)) (nI (f (lgH f k h a))) (nI (shL f k h w)) (if v7 = -4 then fsL f k h else v7) m := by
  intro k
  induction k with
  | zero =>
    intro h a w fu v7 hk h1 ha hw hfu
    obtain ⟨g, rfl⟩ : ∃ g, fu = g + 1 := ⟨fu - 1, by omega⟩
    have z : 99 < h := by omega
    have e : (if v7 = -4 then (-4 : Int32) else v7) = v7 := by split <;> simp [*]
    simp (disch := omega) only [L_X11_hump_42, i_ltl, z, ↓reduceIte, lgH, shL, fsL, e]
  | succ k ih =>
    intro h a w fu v7 hk h1 ha hw hfu
    obtain ⟨g, rfl⟩ : ∃ g, fu = g + 1 := ⟨fu - 1, by omega⟩
    have z : ¬ 99 < h := by omega
    have f1 := hf h (by omega)
    have f2 := hf a (by omega)
    have f3 := hf (h - 1) (by omega)
    have l1 := hl h (by omega)
    have p : ¬ nI h ≤ 0 := nI_nle (by omega) (by omega)
    have hh : h + 1 - 1 = h := by omega
    have n4 := i_nm4 (a := h) (by omega)
    rw [lgH, shL, fsL]
    have step : ∀ a' w' v', a' ≤ 99 → w' ≤ 100000 → L_X11_hump_42 c1 c2 c3 g (nI a') (nI (f a')) (nI w') v' (nI (f h)) (nI (h + 1)) m kx = kx (nI (lgH f k (h + 1) a')) (nI (f (lgH f k (h + 1) a'))) (nI (shL f k (h + 1) w')) (if v' = -4 then fsL f k (h + 1) else v') m := by
      intro a' w' v' ha' hw'
      have := ih (h + 1) a' w' g v' (by omega) (by omega) ha' hw' (by omega)
      rw [hh] at this
      exact this
    have z6 : (w ≤ f h) = ¬ (f h < w) := by
      apply propext
      omega
    by_cases z2 : f h ≤ f a <;> by_cases z3 : f h < w <;> by_cases z4 : f h ≤ f (h - 1) <;> by_cases z5 : v7 = -4 <;>
      simp (disch := omega) only [L_X11_hump_42.eq_2, i_ltl, z, ↓reduceIte, l1, bd_i, nam_i, i_le, z6, z2, z3, z4, z5, p, i_al, step, n4, not_true_eq_false, not_false_eq_true]
theorem m_hmp0 {m : St} {c1 c2 c3 : Int32} {f : Nat → Nat} (hl : ∀ h, h ≤ 99 → F_X11_lifeAt c1 (nI h) c2 m = some (nI (f h), m)) (hf : ∀ h, h ≤ 99 → f h < 1000) (kx : Int32 → Int32 → Int32 → Int32 → St → Option (Int32 × St)) : L_X11_hump_42 c1 c2 c3 FU 0 (-1) 100000 (-4) 0 0 m kx = kx (nI (lgH f 99 1 0)) (nI (f (lgH f 99 1 0))) (nI (shL f 98 2 (f 1))) (fsL f 99 1) m := by
  have h1 := m_hmp (c3 := c3) hl hf kx 99 1 0 100000 999 (-4) (by omega) (by omega) (by omega) (by omega) (by omega)
  have e : shL f 99 1 100000 = shL f 98 2 (f 1) := by
    rw [shL, if_pos (by have := hf 1 (by omega); omega)]
  rw [if_pos rfl, e] at h1
  rw [← h1]
  have l1 : F_X11_lifeAt c1 0 c2 m = some (nI (f 0), m) := hl 0 (by omega)
  have f1 := hf 0 (by omega)
  have n1 : ¬ nI (f 0) ≤ -1 := by
    rw [Int32.le_iff_toInt_le, nI_toInt (by omega)]
    have : (-1 : Int32).toInt = -1 := by decide
    omega
  have n2 : ¬ (99 : Int32) < 0 := by decide
  have n3 : (0 : Int32) ≤ 0 := by decide
  have e1 : (0 : Int32) + 1 = nI 1 := rfl
  rw [show FU = 999 + 1 from rfl, L_X11_hump_42.eq_2]
  simp only [n2, ↓reduceIte, l1, bd_i, nam_i, n1, n3, e1]
  rfl
theorem s_hump (a b c : Int32) : Sim (F_X10_hump a b c) (F_X11_hump a b c) := by
  intro x m h
  have hR := h.2.2.1.2
  have hRe := h.2.2.1.1
  by_cases ha : IV 1 60 a
  · obtain ⟨s, s1, s2, rfl⟩ := id ha
    have hl : ∀ h, h ≤ 99 → F_X5_lifeOf 0 (nI s) (nI h) b x = some (nI (lfN (x.1 (4, 0, 0)) s h b), x) := fun t ht => x_lifeOf hR s1 s2 ht b
    have hm : ∀ h, h ≤ 99 → F_X11_lifeAt (nI s) (nI h) b m = some (nI (lfN (x.1 (4, 0, 0)) s h b), m) := fun t ht => by
      have := m_lifeAt (σ := m) (by rw [hRe]; exact hR) s1 s2 ht b
      rw [hRe] at this
      exact this
    have hf : ∀ h, h ≤ 99 → lfN (x.1 (4, 0, 0)) s h b < 1000 := fun t ht => lfB_b hR s2 ht
    generalize hF : (fun h => lfN (x.1 (4, 0, 0)) s h b) = F at *
    have hF' : ∀ h, lfN (x.1 (4, 0, 0)) s h b = F h := fun h => congrFun hF h
    simp only [hF'] at hl hm hf
    have eL : F_X5_longestHeat 0 (nI s) b x = some (nI (lgH F 99 1 0), x) := x_lgH hl hf 99 1 0 FU (by omega) (by omega) (by unfold FU; omega)
    have eS : F_X5_shortestLife 0 (nI s) b x = some (nI (shL F 98 2 (F 1)), x) := by
      rw [F_X5_shortestLife, show F_X5_lifeOf 0 (nI s) 1 b x = _ from hl 1 (by omega), bd_i]
      exact x_shL hl hf 98 2 (F 1) FU (by omega) (hf 1 (by omega)) (by unfold FU; omega)
    have eF : F_X5_firstLonger 0 (nI s) b x = some (fsL F 99 1, x) := x_fsL hl hf 99 1 FU (by omega) (by omega) (by unfold FU; omega)
    by_cases hc : IV 0 3 c
    · obtain ⟨w, w1, w2, rfl⟩ := id hc
      have hb := lgH_b F 99 1 0 (by omega) (by omega)
      refine Sim_same (r := if w = 0 then nI (lgH F 99 1 0) else if w = 1 then nI (F (lgH F 99 1 0)) else if w = 2 then nI (shL F 98 2 (F 1)) else fsL F 99 1) h ?_ ?_
      · rw [F_X10_hump, x_sizet s1 s2, bd_i, if_neg (by decide), eL, eS, eF]
        have : w = 0 ∨ w = 1 ∨ w = 2 ∨ w = 3 := by omega
        rcases this with rfl | rfl | rfl | rfl
        · rfl
        · rw [if_neg (by decide), if_pos (by rfl), bd_i, hl _ hb]; rfl
        · rfl
        · rfl
      · rw [F_X11_hump, m_sizet s1 s2, bd_i, if_neg (by decide), m_wt (by omega) (by omega) (by omega), bd_i, if_neg (by decide), m_hmp0 hm hf]
        have : w = 0 ∨ w = 1 ∨ w = 2 ∨ w = 3 := by omega
        rcases this with rfl | rfl | rfl | rfl <;> rfl
    · refine Sim_same (r := -1) h ?_ ?_
      · have n : ∀ k, k ≤ 3 → ¬ c = nI k := fun k hk e => hc ⟨k, by omega, hk, e⟩
        rw [F_X10_hump, x_sizet s1 s2, bd_i, if_neg (by decide), if_neg (show ¬ c = 0 from n 0 (by omega)), if_neg (show ¬ c = 1 from n 1 (by omega)), if_neg (show ¬ c = 2 from n 2 (by omega)), if_neg (show ¬ c = 3 from n 3 (by omega))]
      · rw [F_X11_hump, m_sizet s1 s2, bd_i, if_neg (by decide), m_wf hc (by omega) (by omega), bd_i, if_pos rfl]
  · refine Sim_same (r := -1) h ?_ ?_
    · rw [F_X10_hump, x_sizef ha, bd_i, if_pos rfl]
    · rw [F_X11_hump, m_sizef ha, bd_i, if_pos rfl]
/-- how many, the first, the last -/
def htL (p : Nat → Bool) : Nat → Nat → Int32 → Int32 → Int32 → Int32 × Int32 × Int32
  | 0, _, a, b, c => (a, b, c)
  | k + 1, h, a, b, c => if p h then htL p k (h + 1) (a + 1) (if b = -4 then nI h else b) (nI h) else htL p k (h + 1) a b c
theorem x_hot {x : St} {c1 c2 c3 c4 : Int32} {p : Nat → Bool} (hl : ∀ h, h ≤ 99 → ∃ r, F_X5_lifeOf 0 c1 (nI h) c3 x = some (r, x) ∧ (r = c2 ↔ p h = true)) (kx : Int32 → Int32 → Int32 → St → Option (Int32 × St)) : ∀ (k h fu : Nat) (v5 v6 v7 : Int32), h + k = 100 → k < fu → L_X10_hot_44 c1 c2 c3 c4 fu v5 v6 v7 (nI h) x kx = kx (htL p k h v5 v6 v7).1 (htL p k h v5 v6 v7).2.1 (htL p k h v5 v6 v7).2.2 x := by
  intro k
  induction k with
  | zero =>
    intro h fu v5 v6 v7 hk hfu
    obtain ⟨g, rfl⟩ : ∃ g, fu = g + 1 := ⟨fu - 1, by omega⟩
    have z : 99 < h := by omega
    simp (disch := omega) only [L_X10_hot_44, i_ltl, z, ↓reduceIte, htL]
  | succ k ih =>
    intro h fu v5 v6 v7 hk hfu
    obtain ⟨g, rfl⟩ : ∃ g, fu = g + 1 := ⟨fu - 1, by omega⟩
    have z : ¬ 99 < h := by omega
    obtain ⟨r, e1, e2⟩ := hl h (by omega)
    have ih' : ∀ a b c, L_X10_hot_44 c1 c2 c3 c4 g a b c (nI (h + 1)) x kx = _ := fun a b c => ih (h + 1) g a b c (by omega) (by omega)
    rw [htL]
    by_cases z2 : p h = true
    · rw [if_pos z2]
      have z3 := e2.mpr z2
      by_cases z4 : v6 = -4 <;> simp (disch := omega) only [L_X10_hot_44, i_ltl, z, ↓reduceIte, e1, bd_i, nam_i, z3, z4, i_al, ih']
    · rw [if_neg z2]
      have z3 : ¬ r = c2 := fun e => z2 (e2.mp e)
      simp (disch := omega) only [L_X10_hot_44, i_ltl, z, ↓reduceIte, e1, bd_i, nam_i, z3, i_al, ih']
theorem m_hot {x : St} {c1 c2 c3 c4 : Int32} {p : Nat → Bool} (hl : ∀ h, h ≤ 99 → ∃ r, F_X11_lifeAt c1 (nI h) c3 x = some (r, x) ∧ (r = c2 ↔ p h = true)) (kx : Int32 → Int32 → Int32 → St → Option (Int32 × St)) : ∀ (k h fu : Nat) (v5 v6 v7 : Int32), h + k = 100 → k < fu → L_X11_hot_43 c1 c2 c3 c4 fu v5 v6 v7 (nI h) x kx = kx (htL p k h v5 v6 v7).1 (htL p k h v5 v6 v7).2.1 (htL p k h v5 v6 v7).2.2 x := by
  intro k
  induction k with
  | zero =>
    intro h fu v5 v6 v7 hk hfu
    obtain ⟨g, rfl⟩ : ∃ g, fu = g + 1 := ⟨fu - 1, by omega⟩
    have z : 99 < h := by omega
    simp (disch := omega) only [L_X11_hot_43, i_ltl, z, ↓reduceIte, htL]
  | succ k ih =>
    intro h fu v5 v6 v7 hk hfu
    obtain ⟨g, rfl⟩ : ∃ g, fu = g + 1 := ⟨fu - 1, by omega⟩
    have z : ¬ 99 < h := by omega
    obtain ⟨r, e1, e2⟩ := hl h (by omega)
    have ih' : ∀ a b c, L_X11_hot_43 c1 c2 c3 c4 g a b c (nI (h + 1)) x kx = _ := fun a b c => ih (h + 1) g a b c (by omega) (by omega)
    rw [htL]
    by_cases z2 : p h = true
    · rw [if_pos z2]
      have z3 := e2.mpr z2
      by_cases z4 : v6 = -4 <;> simp (disch := omega) only [L_X11_hot_43, i_ltl, z, ↓reduceIte, e1, bd_i, nam_i, z3, z4, i_al, ih']
    · rw [if_neg z2]
      have z3 : ¬ r = c2 := fun e => z2 (e2.mp e)
      simp (disch := omega) only [L_X11_hot_43, i_ltl, z, ↓reduceIte, e1, bd_i, nam_i, z3, i_al, ih']
theorem s_hot (a b c d : Int32) : Sim (F_X10_hot a b c d) (F_X11_hot a b c d) := by
  intro x m h
  have hR := h.2.2.1.2
  have hRe := h.2.2.1.1
  by_cases ha : IV 1 60 a
  · obtain ⟨s, s1, s2, rfl⟩ := id ha
    by_cases hb : IV 0 999 b
    · obtain ⟨t, t1, t2, rfl⟩ := id hb
      by_cases hd : IV 0 2 d
      · obtain ⟨w, w1, w2, rfl⟩ := id hd
        have hl : ∀ h, h ≤ 99 → ∃ r, F_X5_lifeOf 0 (nI s) (nI h) c x = some (r, x) ∧ (r = nI t ↔ decide (nI (lfN (x.1 (4, 0, 0)) s h c) = nI t) = true) := fun t ht => ⟨_, x_lifeOf hR s1 s2 ht c, by simp⟩
        have hm : ∀ h, h ≤ 99 → ∃ r, F_X11_lifeAt (nI s) (nI h) c m = some (r, m) ∧ (r = nI t ↔ decide (nI (lfN (x.1 (4, 0, 0)) s h c) = nI t) = true) := fun t ht => ⟨_, m_lifeAt (σ := m) (by rw [hRe]; exact hR) s1 s2 ht c, by rw [hRe]; simp⟩
        refine Sim_same (r := if nI w = 0 then (htL (fun h => decide (nI (lfN (x.1 (4, 0, 0)) s h c) = nI t)) 100 0 0 (-4) (-4)).1 else if nI w = 1 then (htL (fun h => decide (nI (lfN (x.1 (4, 0, 0)) s h c) = nI t)) 100 0 0 (-4) (-4)).2.1 else (htL (fun h => decide (nI (lfN (x.1 (4, 0, 0)) s h c) = nI t)) 100 0 0 (-4) (-4)).2.2) h ?_ ?_
        · rw [F_X10_hot, x_sizet s1 s2, bd_i, if_neg (by decide), x_wt (by omega) (by omega) (by omega), bd_i, if_neg (by decide), x_wt (by omega) (by omega) (by omega), bd_i, if_neg (by decide)]
          refine (x_hot (p := fun h => decide (nI (lfN (x.1 (4, 0, 0)) s h c) = nI t)) hl _ 100 0 FU 0 (-4) (-4) (by omega) (by unfold FU; omega)).trans ?_
          split
          · rfl
          · split <;> rfl
        · rw [F_X11_hot, m_sizet s1 s2, bd_i, if_neg (by decide), m_lifet (by omega), bd_i, if_neg (by decide), m_wt (by omega) (by omega) (by omega), bd_i, if_neg (by decide)]
          refine (m_hot (p := fun h => decide (nI (lfN (x.1 (4, 0, 0)) s h c) = nI t)) hm _ 100 0 FU 0 (-4) (-4) (by omega) (by unfold FU; omega)).trans ?_
          split
          · rfl
          · split <;> rfl
      · refine Sim_same (r := -1) h ?_ ?_
        · rw [F_X10_hot, x_sizet s1 s2, bd_i, if_neg (by decide), x_wt (by omega) (by omega) (by omega), bd_i, if_neg (by decide), x_wf hd (by omega) (by omega), bd_i, if_pos rfl]
        · rw [F_X11_hot, m_sizet s1 s2, bd_i, if_neg (by decide), m_lifet (by omega), bd_i, if_neg (by decide), m_wf hd (by omega) (by omega), bd_i, if_pos rfl]
    · refine Sim_same (r := -1) h ?_ ?_
      · rw [F_X10_hot, x_sizet s1 s2, bd_i, if_neg (by decide), x_wf hb (by omega) (by omega), bd_i, if_pos rfl]
      · rw [F_X11_hot, m_sizet s1 s2, bd_i, if_neg (by decide), m_lifef hb, bd_i, if_pos rfl]
  · refine Sim_same (r := -1) h ?_ ?_
    · rw [F_X10_hot, x_sizef ha, bd_i, if_pos rfl]
    · rw [F_X11_hot, m_sizef ha, bd_i, if_pos rfl]
