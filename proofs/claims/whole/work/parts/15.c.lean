/-! more calls on the plate -/
theorem Sim_same {α : Type} {fX fM : St → Option (α × St)} {x m : St} {r : α} (h : Rel x m) (e1 : fX x = some (r, x)) (e2 : fM m = some (r, m)) : ∃ r x' m', fX x = some (r, x') ∧ fM m = some (r, m') ∧ Rel x' m' ∧ FrX x x' ∧ FrM m m' := ⟨r, x, m, e1, e2, h, FrX_rfl, FrM_rfl⟩
theorem Sim_scene {α : Type} {fX fM : St → Option (α × St)} {x m : St} {r : α} {n : Nat} {g g' : Nat → Int32} (h : Rel x m) (e1 : fX x = some (r, px 0 x g)) (e2 : fM m = some (r, pm m g')) (hG : Gd n g) (hE : Eqv n g g') (hh : ∀ j, 177 ≤ j → g' j = m.1 (41, 0, 0) j) : ∃ r x' m', fX x = some (r, x') ∧ fM m = some (r, m') ∧ Rel x' m' ∧ FrX x x' ∧ FrM m m' := ⟨r, _, _, e1, e2, Rel_scene h hG hE hh, FrX_px, FrM_pm⟩
theorem Gd_s {n k : Nat} {g : Nat → Int32} {v : Int32} (hG : Gd n g) (hk : 168 ≤ k) (h9 : k ≠ 169) (h0 : k ≠ 170) (h6' : k ≠ 176) : Gd n (upd g k v) := by
  obtain ⟨h1, h2, h3, h4, h5, h6, h7⟩ := hG
  refine ⟨h1, by rw [pk_un (by omega), h2], fun c hc => by rw [pk_un (by omega)]; exact h3 c hc, by rw [pk_un (by omega)]; exact h4, by rw [pk_un (by omega)]; exact h5, ?_, ?_⟩
  · intro d hd hg
    rw [pk_un (by omega)] at hg
    obtain ⟨⟨c, s, w, k, a1, a2, a3, a4, a5, a6, a7, a8, a9⟩, b⟩ := h6 d hd hg
    refine ⟨⟨c, s, w, k, a1, by rw [pk_un (by omega), a2], a3, a4, by rw [pk_un (by omega), a5], a6, by rw [pk_un (by omega), a7], by rw [pk_un (by omega), a8], a9⟩, ?_⟩
    intro e he hne
    rw [pk_un (by omega), pk_un (by omega), pk_un (by omega)]
    exact b e he hne
  · rw [sm_cong (f' := tz (upd g k v)) (f := tz g) (fun e he => by rw [tz, tz, pk_un (by omega), pk_un (by omega)])]
    exact h7
theorem s_seed (a : Int32) : Sim (F_X10_seed a) (F_X11_seed a) := by
  intro x m h
  obtain ⟨n, g, g', ex, em, hG, hG', hE, rg, rg'⟩ := Rel_open h
  have e1 : F_X10_seed a (px 0 x g) = some (g 175, px 0 x (upd g 175 a)) := by simp only [F_X10_seed, nam_i, px_s5, pu_s5]
  have e2 : F_X11_seed a (pm m g') = some (g' 175, pm m (upd g' 175 a)) := by simp (disch := omega) only [F_X11_seed, inb_l, ck_i, nam_i, pm_r, pm_u]
  rw [← ex] at e1
  rw [← em, hE.s (by omega) (by omega)] at e2
  exact Sim_scene h e1 e2 (Gd_s hG (by omega) (by omega) (by omega) (by omega)) (Eqv_upd hE rfl) (fun j hj => by rw [pk_un (by omega), rg'])
theorem s_at (a : Int32) : Sim (F_X10_at a) (F_X11_at a) := by
  intro x m h
  obtain ⟨n, g, g', ex, em, hG, hG', hE, rg, rg'⟩ := Rel_open h
  have h12 := hG.1
  by_cases ha : IV 0 95 a
  · obtain ⟨c, h1, h2, rfl⟩ := ha
    have e1 : F_X10_at (nI c) (px 0 x g) = some (ans (fnd (pC g (nI c) (-4)) n 0), px 0 x g) := by rw [F_X10_at, x_cellt (by omega), bd_i, if_neg (by decide), x_inC hG.2.1 h12, bd_i]
    have e2 : F_X11_at (nI c) (pm m g') = some (ans (fnd (pC g' (nI c) (-4)) n 0), pm m g') := by rw [F_X11_at, m_cellt (by omega), bd_i, if_neg (by decide), m_inC hG'.2.1 h12, bd_i]
    have hf : fnd (pC g' (nI c) (-4)) n 0 = fnd (pC g (nI c) (-4)) n 0 := fnd_cong (fun e _ he => by rw [pC, pC, hE.gone (by omega) h12, hE.at (by omega) h12])
    rw [← ex] at e1
    rw [← em, hf] at e2
    exact Sim_same h e1 e2
  · refine Sim_same (r := -1) h ?_ ?_
    · rw [F_X10_at, x_cellf ha, bd_i, if_pos rfl]
    · rw [F_X11_at, m_cellf ha, bd_i, if_pos rfl]
theorem s_cell (a : Int32) : Sim (F_X10_cell a) (F_X11_cell a) := by
  intro x m h
  obtain ⟨n, g, g', ex, em, hG, hG', hE, rg, rg'⟩ := Rel_open h
  by_cases ha : IV 0 95 a
  · obtain ⟨c, h1, h2, rfl⟩ := ha
    have hc : c < 96 := by omega
    have e1 : F_X10_cell (nI c) (px 0 x g) = some (g c, px 0 x g) := by rw [F_X10_cell, x_cellt (by omega), bd_i, if_neg (by decide), x_kind hc, bd_i]
    have e2 : F_X11_cell (nI c) (pm m g') = some (g' c, pm m g') := by
      rw [F_X11_cell, m_cellt (by omega), bd_i, if_neg (by decide)]
      simp (disch := omega) only [inb_i, ck_i, nI_clamp, pm_r]
    rw [← ex] at e1
    rw [← em, hE.c hc] at e2
    exact Sim_same h e1 e2
  · refine Sim_same (r := -1) h ?_ ?_
    · rw [F_X10_cell, x_cellf ha, bd_i, if_pos rfl]
    · rw [F_X11_cell, m_cellf ha, bd_i, if_pos rfl]
theorem x_dropt {q : Nat} {x : St} {g : Nat → Int32} {d n : Nat} (hn : g 176 = nI n) (h12 : n ≤ 12) (hd : d < n) : F_X6_isDrop q (nI d) (px q x g) = some (1, px q x g) := by
  have h1 : ¬ nI d < 0 := nI_pos (by omega)
  have h2 : ¬ n ≤ d := by omega
  simp (disch := omega) only [F_X6_isDrop, h1, px_s2, hn, i_le, h2, ↓reduceIte]
theorem x_dropf {q : Nat} {x : St} {g : Nat → Int32} {a : Int32} {n : Nat} (hn : g 176 = nI n) (h12 : n ≤ 12) (ha : ¬ ∃ d, d < n ∧ a = nI d) : F_X6_isDrop q a (px q x g) = some (0, px q x g) := by
  rw [F_X6_isDrop, px_s2, hn]
  by_cases h1 : a < 0
  · rw [if_pos h1]
  · rw [if_neg h1]
    by_cases h2 : nI n ≤ a
    · rw [if_pos h2]
    · rcases pk_ix a (n := n) (by omega) with q | q | q
      · exact absurd q h1
      · exact absurd q h2
      · exact absurd q ha
theorem s_of (a b : Int32) : Sim (F_X10_of a b) (F_X11_of a b) := by
  intro x m h
  obtain ⟨n, g, g', ex, em, hG, hG', hE, rg, rg'⟩ := Rel_open h
  have h12 := hG.1
  have hn := hG.2.1
  have hn' := hG'.2.1
  by_cases ha : ∃ d, d < n ∧ a = nI d
  · obtain ⟨d, hd, rfl⟩ := ha
    have e1 : F_X10_of (nI d) b (px 0 x g) = some (if b = 0 then g (96 + d) else if b = 1 then g (108 + d) else if b = 2 then g (120 + d) else if b = 3 then g (132 + d) else if b = 4 then g (144 + d) else if b = 5 then g (156 + d) else -1, px 0 x g) := by
      rw [F_X10_of, x_dropt hn h12 hd, bd_i, if_neg (by decide)]
      simp (disch := omega) only [inb_i, ck_i, nI_clamp, px_d0, px_d1, px_d2, px_d3, px_d4, px_d5]
      repeat' split
      all_goals rfl
    have e2 : F_X11_of (nI d) b (pm m g') = some (if b = 0 then g' (96 + d) else if b = 1 then g' (108 + d) else if b = 2 then g' (120 + d) else if b = 3 then g' (132 + d) else if b = 4 then g' (144 + d) else if b = 5 then g' (156 + d) else -1, pm m g') := by
      rw [F_X11_of]
      simp (disch := omega) only [inb_l, inb_i, ck_i, i_la, nI_clamp, pm_r, hn', m_dt, bd_i, ft10, ↓reduceIte]
      repeat' split
      all_goals rfl
    rw [← ex] at e1
    rw [← em, hE.at hd h12, hE.big hd h12, hE.way hd h12, hE.gone hd h12, hE.whn hd h12, hE.whom hd h12] at e2
    exact Sim_same h e1 e2
  · have e1 : F_X10_of a b (px 0 x g) = some (-1, px 0 x g) := by rw [F_X10_of, x_dropf hn h12 ha, bd_i, if_pos rfl]
    have e2 : F_X11_of a b (pm m g') = some (-1, pm m g') := by
      rw [F_X11_of]
      simp (disch := omega) only [inb_l, ck_i, pm_r, hn', m_df ha (show n < 2 ^ 31 by omega), bd_i, ↓reduceIte]
    rw [← ex] at e1
    rw [← em] at e2
    exact Sim_same h e1 e2
theorem s_points (a : Int32) : Sim (F_X10_points a) (F_X11_points a) := by
  intro x m h
  obtain ⟨n, g, g', ex, em, hG, hG', hE, rg, rg'⟩ := Rel_open h
  have h12 := hG.1
  have hn := hG.2.1
  have hn' := hG'.2.1
  have hRe := h.2.2.1.1
  have e10 : decide (¬ (10 : Int32) = 0) = true := by decide
  by_cases ha : ∃ d, d < n ∧ a = nI d
  · obtain ⟨d, hd, rfl⟩ := ha
    by_cases h0 : g (132 + d) = 0
    · obtain ⟨⟨c, s, w, k, a1, a2, _⟩, _⟩ := hG.2.2.2.2.2.1 d hd h0
      have h0' : g' (132 + d) = 0 := by rw [hE.gone hd h12]; exact h0
      have a2' : g' (96 + d) = nI c := by rw [hE.at hd h12]; exact a2
      have e1 : F_X10_points (nI d) (px 0 x g) = some (if g 170 = 0 ∨ g c = 7 then 0 else if g (108 + d) < x.1 (4, 0, 0) 5 then 3 + 2 * (g (108 + d) / 10) else 0, px 0 x g) := by
        rw [F_X10_points, x_dropt hn h12 hd, bd_i, if_neg (by decide)]
        by_cases ht : g 170 = 0 ∨ g c = 7
        · simp (disch := omega) only [inb_i, ck_i, nI_clamp, px_d3, h0, ↓reduceIte, x_touches (show d < 12 by omega) a1 a2, bd_i, ht, ft10]
        · by_cases hch : g (108 + d) < x.1 (4, 0, 0) 5 <;> simp (disch := omega) only [inb_i, inb_l, ck_i, nI_clamp, px_d3, px_d1, px_t, h0, ↓reduceIte, x_touches (show d < 12 by omega) a1 a2, bd_i, ht, ft10, F_X5_hasChimney, hch, e10]
      have e2 : F_X11_points (nI d) (pm m g') = some (if g' 170 = 0 ∨ g' c = 7 then 0 else if g' (108 + d) < m.1 (43, 0, 0) 5 then 3 + 2 * (g' (108 + d) / 10) else 0, pm m g') := by
        rw [F_X11_points]
        by_cases ht : g' 170 = 0 ∨ g' c = 7
        · simp (disch := omega) only [inb_l, inb_i, ck_i, i_la, nI_clamp, pm_r, hn', m_dt, bd_i, ft10, ↓reduceIte, m_there, h0', decide_true, flg, m_touches (show d < 12 by omega) a1 a2', ht]
        · by_cases hch : g' (108 + d) < m.1 (43, 0, 0) 5 <;> simp (disch := omega) only [inb_l, inb_i, ck_i, i_la, nI_clamp, pm_r, pm_t, hn', m_dt, bd_i, ft10, ↓reduceIte, m_there, h0', decide_true, flg, m_touches (show d < 12 by omega) a1 a2', ht, hch, e10]
      rw [← ex] at e1
      rw [← em, hE.s (j := 170) (by omega) (by omega), hE.c a1, hE.big hd h12, hRe] at e2
      exact Sim_same h e1 e2
    · have h0' : ¬ g' (132 + d) = 0 := by rw [hE.gone hd h12]; exact h0
      have e1 : F_X10_points (nI d) (px 0 x g) = some (-4, px 0 x g) := by
        rw [F_X10_points, x_dropt hn h12 hd, bd_i, if_neg (by decide)]
        simp (disch := omega) only [inb_i, ck_i, nI_clamp, px_d3, h0, ↓reduceIte]
      have e2 : F_X11_points (nI d) (pm m g') = some (-4, pm m g') := by
        rw [F_X11_points]
        simp (disch := omega) only [inb_l, inb_i, ck_i, i_la, nI_clamp, pm_r, hn', m_dt, bd_i, ft10, ↓reduceIte, m_there, h0', decide_false, flg, Bool.false_eq_true]
      rw [← ex] at e1
      rw [← em] at e2
      exact Sim_same h e1 e2
  · have e1 : F_X10_points a (px 0 x g) = some (-1, px 0 x g) := by rw [F_X10_points, x_dropf hn h12 ha, bd_i, if_pos rfl]
    have e2 : F_X11_points a (pm m g') = some (-1, pm m g') := by
      rw [F_X11_points]
      simp (disch := omega) only [inb_l, ck_i, pm_r, hn', m_df ha (show n < 2 ^ 31 by omega), bd_i, ↓reduceIte]
    rw [← ex] at e1
    rw [← em] at e2
    exact Sim_same h e1 e2
theorem s_now (a : Int32) : Sim (F_X10_now a) (F_X11_now a) := by
  intro x m h
  obtain ⟨n, g, g', ex, em, hG, hG', hE, rg, rg'⟩ := Rel_open h
  have h12 := hG.1
  have hn := hG.2.1
  have hn' := hG'.2.1
  have e1 : F_X10_now a (px 0 x g) = some (if a = 0 then g 168 else if a = 1 then g 169 else if a = 2 then g 170 else if a = 3 then sT g n 0 0 else if a = 4 then g 171 else if a = 5 then g 172 else if a = 6 then g 173 else if a = 7 then g 174 else -1, px 0 x g) := by
    have hs : F_X6_sizesThere 0 (px 0 x g) = some (sT g n 0 0, px 0 x g) := x_sT hn h12 n 0 FU 0 (by omega) (by unfold FU; omega)
    have hb : (if g 170 = 0 then some ((0 : Int32), px 0 x g) else some ((1 : Int32), px 0 x g)) = some (g 170, px 0 x g) := by
      rcases hG.2.2.2.2.1 with q | q
      · rw [if_pos q, q]
      · rw [if_neg (by rw [q]; decide), q]
    rw [F_X10_now]
    simp only [px_s2, px_s3, px_s4, px_s6, px_s7, px_s8, px_s9, px_s10, hs, bd_i, hb]
    repeat' split
    all_goals rfl
  have e2 : F_X11_now a (pm m g') = some (if a = 0 then g' 168 else if a = 1 then g' 169 else if a = 2 then g' 170 else if a = 3 then sT g' n 0 0 else if a = 4 then g' 171 else if a = 5 then g' 172 else if a = 6 then g' 173 else if a = 7 then g' 174 else -1, pm m g') := by
    unfold F_X11_now
    refine (m_sT hn' h12 _ n 0 FU 0 (by omega) (by unfold FU; omega)).trans ?_
    simp (disch := omega) only [inb_l, ck_i, pm_r]
    repeat' split
    all_goals rfl
  rw [← ex] at e1
  rw [← em, hE.s (j := 168) (by omega) (by omega), hE.s (j := 169) (by omega) (by omega), hE.s (j := 170) (by omega) (by omega), hE.s (j := 171) (by omega) (by omega), hE.s (j := 172) (by omega) (by omega), hE.s (j := 173) (by omega) (by omega), hE.s (j := 174) (by omega) (by omega), sT_eqv hE h12 n 0 0 (by omega)] at e2
  exact Sim_same h e1 e2
