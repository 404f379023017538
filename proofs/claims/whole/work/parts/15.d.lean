/-! heat, put, drop -/
theorem Gd_heat {n h : Nat} {g : Nat → Int32} {v : Int32} (hG : Gd n g) (hh : h < 100) (hv : v = 0 ∨ v = 1) : Gd n (upd (upd g 169 (nI h)) 170 v) := by
  obtain ⟨h1, h2, h3, h4, h5, h6, h7⟩ := hG
  refine ⟨h1, by rw [pk_un (by omega), pk_un (by omega), h2], fun c hc => by rw [pk_un (by omega), pk_un (by omega)]; exact h3 c hc, ⟨h, hh, by rw [pk_un (by omega), pk_us]⟩, by rw [pk_us]; exact hv, ?_, ?_⟩
  · intro d hd hg
    rw [pk_un (by omega), pk_un (by omega)] at hg
    obtain ⟨⟨c, s, w, k, a1, a2, a3, a4, a5, a6, a7, a8, a9⟩, b⟩ := h6 d hd hg
    refine ⟨⟨c, s, w, k, a1, by rw [pk_un (by omega), pk_un (by omega), a2], a3, a4, by rw [pk_un (by omega), pk_un (by omega), a5], a6, by rw [pk_un (by omega), pk_un (by omega), a7], by rw [pk_un (by omega), pk_un (by omega), a8], a9⟩, ?_⟩
    intro e he hne
    rw [pk_un (by omega), pk_un (by omega), pk_un (by omega), pk_un (by omega), pk_un (by omega), pk_un (by omega)]
    exact b e he hne
  · rw [sm_cong (f' := tz (upd (upd g 169 (nI h)) 170 v)) (f := tz g) (fun e he => by rw [tz, tz, pk_un (by omega), pk_un (by omega), pk_un (by omega), pk_un (by omega)])]
    exact h7
theorem x_floats {q : Nat} {σ : St} {h b : Int32} : F_X5_floatsAt q h b σ = some (if b = 0 then (if h < σ.1 (4, q, 0) 1 then 0 else 1) else (if h < σ.1 (4, q, 0) 0 then 0 else 1), σ) := by
  have c0 : (0 : Int32).toNatClampNeg = 0 := by decide
  have c1 : (1 : Int32).toNatClampNeg = 1 := by decide
  by_cases hb : b = 0
  · by_cases h1 : h < σ.1 (4, q, 0) 1 <;> simp (disch := omega) only [F_X5_floatsAt, nam_i, inb_l, ck_i, hb, h1, c1, ↓reduceIte]
  · by_cases h1 : h < σ.1 (4, q, 0) 0 <;> simp (disch := omega) only [F_X5_floatsAt, nam_i, inb_l, ck_i, hb, h1, c0, ↓reduceIte]
theorem d01 (p : Prop) [Decidable p] : decide ((if p then (0 : Int32) else 1) = 0 ∨ (if p then (0 : Int32) else 1) = 1) = true := by
  by_cases h : p <;> simp [h]
theorem s_heat (a : Int32) : Sim (F_X10_heat a) (F_X11_heat a) := by
  intro x m h
  obtain ⟨n, g, g', ex, em, hG, hG', hE, rg, rg'⟩ := Rel_open h
  have hRe := h.2.2.1.1
  by_cases ha : IV 0 99 a
  · obtain ⟨c, h1, h2, rfl⟩ := ha
    have hc : c < 100 := by omega
    have key : ∀ v, (v = 0 ∨ v = 1) → F_X10_heat (nI c) (px 0 x g) = some (v, px 0 x (upd (upd g 169 (nI c)) 170 v)) → F_X11_heat (nI c) (pm m g') = some (v, pm m (upd (upd g' 169 (nI c)) 170 v)) → ∃ r x' m', F_X10_heat (nI c) x = some (r, x') ∧ F_X11_heat (nI c) m = some (r, m') ∧ Rel x' m' ∧ FrX x x' ∧ FrM m m' := by
      intro v hv e1 e2
      rw [← ex] at e1
      rw [← em] at e2
      exact Sim_scene h e1 e2 (Gd_heat hG hc hv) (Eqv_upd (Eqv_upd hE rfl) rfl) (fun j hj => by rw [pk_un (by omega), pk_un (by omega), rg'])
    have hg' : g' 170 = g 170 := hE.s (by omega) (by omega)
    have d0 : decide ((0 : Int32) = 0 ∨ (0 : Int32) = 1) = true := by decide
    have d1 : decide ((1 : Int32) = 0 ∨ (1 : Int32) = 1) = true := by decide
    rcases hG.2.2.2.2.1 with q | q
    · have q' : g' 170 = 0 := by rw [hg', q]
      by_cases hu : nI c < x.1 (4, 0, 0) 0
      · refine key 0 (Or.inl rfl) ?_ ?_
        · rw [F_X10_heat, x_heatt hc, bd_i, if_neg (by decide)]
          simp (disch := omega) only [nam_i, pu_s3, px_s6, pk_un, pk_us, q, ↓reduceIte, x_floats, bd_i, px_t, hu, ft10, true_or, decide_true, ck_i, pu_s6]
        · rw [F_X11_heat, m_wt (by omega) (by omega) (by omega), bd_i, if_neg (by decide)]
          simp (disch := omega) only [nam_i, inb_l, ck_i, pm_r, pm_u, pk_un, pk_us, q', ft01, ↓reduceIte, pm_t, hRe, hu, m_fl0, bd_i]
      · refine key 1 (Or.inr rfl) ?_ ?_
        · rw [F_X10_heat, x_heatt hc, bd_i, if_neg (by decide)]
          simp (disch := omega) only [nam_i, pu_s3, px_s6, pk_un, pk_us, q, ↓reduceIte, x_floats, bd_i, px_t, hu, ft10, or_true, decide_true, ck_i, pu_s6]
        · rw [F_X11_heat, m_wt (by omega) (by omega) (by omega), bd_i, if_neg (by decide)]
          simp (disch := omega) only [nam_i, inb_l, ck_i, pm_r, pm_u, pk_un, pk_us, q', ft01, ↓reduceIte, pm_t, hRe, hu, m_fl1, bd_i]
    · have q' : g' 170 = 1 := by rw [hg', q]
      by_cases hu : nI c < x.1 (4, 0, 0) 1
      · refine key 0 (Or.inl rfl) ?_ ?_
        · rw [F_X10_heat, x_heatt hc, bd_i, if_neg (by decide)]
          simp (disch := omega) only [nam_i, pu_s3, px_s6, pk_un, pk_us, q, ↓reduceIte, x_floats, bd_i, px_t, hu, ft10, true_or, decide_true, ck_i, pu_s6]
        · rw [F_X11_heat, m_wt (by omega) (by omega) (by omega), bd_i, if_neg (by decide)]
          simp (disch := omega) only [nam_i, inb_l, ck_i, pm_r, pm_u, pk_un, pk_us, q', ↓reduceIte, pm_t, hRe, hu, m_fl0, bd_i]
      · refine key 1 (Or.inr rfl) ?_ ?_
        · rw [F_X10_heat, x_heatt hc, bd_i, if_neg (by decide)]
          simp (disch := omega) only [nam_i, pu_s3, px_s6, pk_un, pk_us, q, ↓reduceIte, x_floats, bd_i, px_t, hu, ft10, or_true, decide_true, ck_i, pu_s6]
        · rw [F_X11_heat, m_wt (by omega) (by omega) (by omega), bd_i, if_neg (by decide)]
          simp (disch := omega) only [nam_i, inb_l, ck_i, pm_r, pm_u, pk_un, pk_us, q', ↓reduceIte, pm_t, hRe, hu, m_fl1, bd_i]
  · refine Sim_same (r := -1) h ?_ ?_
    · rw [F_X10_heat, x_heatf ha, bd_i, if_pos rfl]
    · rw [F_X11_heat, m_wf ha (by omega) (by omega), bd_i, if_pos rfl]
theorem Gd_put {n c v : Nat} {g : Nat → Int32} (hG : Gd n g) (hc : c < 96) (hv : v < 8) (hno : (v = 5 ∨ v = 6) → fnd (pC g (nI c) (-4)) n 0 = none) : Gd n (upd g c (nI v)) := by
  obtain ⟨h1, h2, h3, h4, h5, h6, h7⟩ := hG
  refine ⟨h1, by rw [pk_un (by omega), h2], ?_, by rw [pk_un (by omega)]; exact h4, by rw [pk_un (by omega)]; exact h5, ?_, ?_⟩
  · intro c' hc'
    by_cases e : c' = c
    · subst e; exact ⟨v, hv, pk_us⟩
    · rw [pk_un e]; exact h3 c' hc'
  · intro d hd hg
    rw [pk_un (by omega)] at hg
    obtain ⟨⟨c', s, w, k, a1, a2, a3, a4, a5, a6, a7, a8, a9, a10, a11⟩, b⟩ := h6 d hd hg
    refine ⟨?_, ?_⟩
    · by_cases e : c' = c
      · subst e
        have hv56 : v ≠ 5 ∧ v ≠ 6 := by
          refine ⟨fun z => ?_, fun z => ?_⟩
          · have := fnd_none (hno (Or.inl z)) d (by omega) (by omega)
            have hne : ¬ nI d = -4 := by rw [i_nm4 (by omega)]; exact not_false
            simp only [pC, hne, hg, a2, decide_true, decide_false, Bool.not_false, Bool.and_self, Bool.true_eq_false] at this
          · have := fnd_none (hno (Or.inr z)) d (by omega) (by omega)
            have hne : ¬ nI d = -4 := by rw [i_nm4 (by omega)]; exact not_false
            simp only [pC, hne, hg, a2, decide_true, decide_false, Bool.not_false, Bool.and_self, Bool.true_eq_false] at this
        exact ⟨c', s, w, v, a1, by rw [pk_un (by omega), a2], a3, a4, by rw [pk_un (by omega), a5], a6, by rw [pk_un (by omega), a7], pk_us, hv, hv56.1, hv56.2⟩
      · exact ⟨c', s, w, k, a1, by rw [pk_un (by omega), a2], a3, a4, by rw [pk_un (by omega), a5], a6, by rw [pk_un (by omega), a7], by rw [pk_un e, a8], a9, a10, a11⟩
    · intro e he hne
      rw [pk_un (by omega), pk_un (by omega), pk_un (by omega)]
      exact b e he hne
  · rw [sm_cong (f' := tz (upd g c (nI v))) (f := tz g) (fun e he => by rw [tz, tz, pk_un (by omega), pk_un (by omega)])]
    exact h7
theorem s_put (a b : Int32) : Sim (F_X10_put a b) (F_X11_put a b) := by
  intro x m h
  obtain ⟨n, g, g', ex, em, hG, hG', hE, rg, rg'⟩ := Rel_open h
  have h12 := hG.1
  by_cases ha : IV 0 95 a
  · obtain ⟨c, h1, h2, rfl⟩ := ha
    have hc : c < 96 := by omega
    by_cases hb : IV 0 7 b
    · obtain ⟨v, b1, b2, rfl⟩ := hb
      have hf : fnd (pC g' (nI c) (-4)) n 0 = fnd (pC g (nI c) (-4)) n 0 := fnd_cong (fun e _ he => by rw [pC, pC, hE.gone (by omega) h12, hE.at (by omega) h12])
      have i1 := x_inC (q := 0) (x := x) (c := nI c) hG.2.1 h12
      have i2 := m_inC (m := m) (c := nI c) (nt := -4) hG'.2.1 h12
      rw [hf] at i2
      by_cases hs : v = 5 ∨ v = 6
      · cases hfe : fnd (pC g (nI c) (-4)) n 0 with
        | none =>
          rw [hfe] at i1 i2
          have a4 : ans none = -4 := rfl
          have e1 : F_X10_put (nI c) (nI v) (px 0 x g) = some (g c, px 0 x (upd g c (nI v))) := by
            rw [F_X10_put, x_cellt hc, bd_i, if_neg (by decide), x_wt (by omega) (by omega) (by omega), bd_i, if_neg (by decide)]
            rcases hs with rfl | rfl <;> simp (disch := omega) only [i_eqr, ↓reduceIte, i1, bd_i, a4, inb_i, ck_i, nI_clamp, nam_i, px_c, pu_c, Nat.reduceEqDiff]
          have e2 : F_X11_put (nI c) (nI v) (pm m g') = some (g' c, pm m (upd g' c (nI v))) := by
            rw [F_X11_put, m_cellt hc, bd_i, if_neg (by decide), m_wt (by omega) (by omega) (by omega), bd_i, if_neg (by decide)]
            rcases hs with rfl | rfl <;> simp (disch := omega) only [F_X11_isShut, i_eqr, ↓reduceIte, i2, bd_i, a4, inb_i, ck_i, nI_clamp, nam_i, pm_r, pm_u, ft10, Nat.reduceEqDiff]
          rw [← ex] at e1
          rw [← em, hE.c hc] at e2
          exact Sim_scene h e1 e2 (Gd_put hG hc (by omega) (fun _ => hfe)) (Eqv_upd hE rfl) (fun j hj => by rw [pk_un (by omega), rg'])
        | some e =>
          rw [hfe] at i1 i2
          have he := fnd_some hfe
          have a4 : ¬ ans (some e) = -4 := by
            show ¬ nI e = -4
            rw [i_nm4 (by omega)]; exact not_false
          have e1 : F_X10_put (nI c) (nI v) (px 0 x g) = some (-2, px 0 x g) := by
            rw [F_X10_put, x_cellt hc, bd_i, if_neg (by decide), x_wt (by omega) (by omega) (by omega), bd_i, if_neg (by decide)]
            rcases hs with rfl | rfl <;> simp (disch := omega) only [i_eqr, ↓reduceIte, i1, bd_i, a4, Nat.reduceEqDiff]
          have e2 : F_X11_put (nI c) (nI v) (pm m g') = some (-2, pm m g') := by
            rw [F_X11_put, m_cellt hc, bd_i, if_neg (by decide), m_wt (by omega) (by omega) (by omega), bd_i, if_neg (by decide)]
            rcases hs with rfl | rfl <;> simp (disch := omega) only [F_X11_isShut, i_eqr, ↓reduceIte, i2, bd_i, a4, ft10, Nat.reduceEqDiff]
          rw [← ex] at e1
          rw [← em] at e2
          exact Sim_same h e1 e2
      · have h5 : ¬ v = 5 := fun z => hs (Or.inl z)
        have h6 : ¬ v = 6 := fun z => hs (Or.inr z)
        have e1 : F_X10_put (nI c) (nI v) (px 0 x g) = some (g c, px 0 x (upd g c (nI v))) := by
          rw [F_X10_put, x_cellt hc, bd_i, if_neg (by decide), x_wt (by omega) (by omega) (by omega), bd_i, if_neg (by decide)]
          simp (disch := omega) only [i_eqr, h5, h6, ↓reduceIte, inb_i, ck_i, nI_clamp, nam_i, px_c, pu_c]
        have e2 : F_X11_put (nI c) (nI v) (pm m g') = some (g' c, pm m (upd g' c (nI v))) := by
          rw [F_X11_put, m_cellt hc, bd_i, if_neg (by decide), m_wt (by omega) (by omega) (by omega), bd_i, if_neg (by decide)]
          simp (disch := omega) only [F_X11_isShut, i_eqr, h5, h6, ↓reduceIte, bd_i, inb_i, ck_i, nI_clamp, nam_i, pm_r, pm_u]
        rw [← ex] at e1
        rw [← em, hE.c hc] at e2
        exact Sim_scene h e1 e2 (Gd_put hG hc (by omega) (fun z => absurd z hs)) (Eqv_upd hE rfl) (fun j hj => by rw [pk_un (by omega), rg'])
    · refine Sim_same (r := -1) h ?_ ?_
      · rw [F_X10_put, x_cellt hc, bd_i, if_neg (by decide), x_wf hb (by omega) (by omega), bd_i, if_pos rfl]
      · rw [F_X11_put, m_cellt hc, bd_i, if_neg (by decide), m_wf hb (by omega) (by omega), bd_i, if_pos rfl]
  · refine Sim_same (r := -1) h ?_ ?_
    · rw [F_X10_put, x_cellf ha, bd_i, if_pos rfl]
    · rw [F_X11_put, m_cellf ha, bd_i, if_pos rfl]
