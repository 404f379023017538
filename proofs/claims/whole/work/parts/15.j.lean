/-! keep, back: the calls -/
theorem keep_u (i : Nat) (σ : St) : F_X10_keep (nI i) σ = bd (F_X10_within (nI i) (0 : Int32) (1 : Int32) σ) fun r2 σ1 => (if r2 = 0 then some ((-1 : Int32), σ1) else ck (inb (nI i) 2) (if (σ1.1 (12, ((nI i).toNatClampNeg), 0) 1) = 0 then (bd (F_X6_takeAll (((nI i).toNatClampNeg) + 1) 0 σ1) fun _ σ8 => nam (uI σ8 (12, ((nI i).toNatClampNeg), 0) 1 (1 : Int32)) fun σ10 => some ((0 : Int32), σ10)) else (bd (F_X6_takeAll (((nI i).toNatClampNeg) + 1) 0 σ1) fun _ σ8 => nam (uI σ8 (12, ((nI i).toNatClampNeg), 0) 1 (1 : Int32)) fun σ10 => some ((1 : Int32), σ10)))) := rfl
theorem nar1 : vp_nar .boolean (1 : Int32) = 1 := rfl
theorem nar0 : vp_nar .boolean (0 : Int32) = 0 := rfl
theorem s_keep (a : Int32) : Sim (F_X10_keep a) (F_X11_keep a) := by
  intro x m h
  obtain ⟨n, g, g', ex, em, hG, hG', hE, rg, rg'⟩ := Rel_open h
  obtain ⟨h1, h2, h3, h4, h5, h6, h7, h8⟩ := id h
  by_cases ha : IV 0 1 a
  · obtain ⟨i, i1, i2, rfl⟩ := id ha
    obtain ⟨gs, hgs, ets⟩ := x_takeAll (q := i + 1) (q' := 0) (x := x) (by omega) (by rw [← rg]; exact hG.2.2.2.2.1)
    obtain ⟨v, bv, iv, jv⟩ : ∃ v, (v = 0 ∨ v = 1) ∧ x.1 (12, i, 0) 1 = v ∧ m.1 (42, 0, 0) i = v := by
      rcases h5 i (by omega) with ⟨p, q⟩ | ⟨p, q, _⟩
      · exact ⟨0, Or.inl rfl, p, q⟩
      · exact ⟨1, Or.inr rfl, p, q⟩
    have cl : (nI i).toNatClampNeg = i := nI_clamp (by omega)
    have fv : ∀ σ, F_X11_flag v σ = some (v, σ) := fun σ => by rcases bv with rfl | rfl <;> rfl
    have e1 : F_X10_keep (nI i) x = some (v, uI (px (i + 1) x gs) (12, i, 0) 1 1) := by
      rw [keep_u, x_wt (by omega) (by omega) (by omega), bd_i, if_neg (by decide), inb_i (by omega) (by omega), ck_i, cl, iv, ets, bd_i, bd_i, nam_i, nam_i]
      rcases bv with rfl | rfl
      · rw [if_pos rfl]
      · rw [if_neg (by decide)]
    have e2 : F_X11_keep (nI i) m = some (v, pm (uI m (42, 0, 0) i 1) (cpG (192 * (i + 1)) 0 0 g')) := by
      have ec := m_copyL (m := uI m (42, 0, 0) i 1) (to := 192 * (i + 1)) (of := 0) (by omega) (by omega) (by omega) 192 0 FU g' (by omega) (by unfold FU; omega)
      have em2 : pm (uI m (42, 0, 0) i 1) g' = uI m (42, 0, 0) i 1 := by rw [← pm_o (by omega), ← em]
      rw [em2] at ec
      rw [F_X11_keep, m_wt (by omega) (by omega) (by omega), bd_i, if_neg (by decide), inb_i (by omega) (by omega), ck_i, cl, jv, fv, bd_i, ck_i, nar1, nam_i, F_X11_copies, i_al, i_lm]
      show bd (L_X11_copies_2 (nI (192 * (i + 1))) (nI 0) FU (nI 0) _) _ = _
      rw [ec, bd_i]
    refine ⟨v, _, _, e1, e2, ⟨?_, ?_, ?_, ?_, ?_, ?_, ?_, ?_⟩, FrX_u (by omega) FrX_px, FrM_trans (FrM_u (by omega) FrM_rfl) FrM_pm⟩
    · unfold RT at h1 ⊢
      simp (disch := omega) only [rd_t, px_t, pm_t]
      exact h1
    · unfold RF at h2 ⊢
      simp (disch := omega) only [rd_t, px_t, pm_t]
      exact h2
    · unfold RU at h3 ⊢
      simp (disch := omega) only [rd_t, px_t, pm_t]
      exact h3
    · refine ⟨n, ?_, ?_⟩
      · rw [fx_u (by omega) (by omega) (by omega), fx_pq (by omega), ← rg]
        exact hG
      · rw [fx_u (by omega) (by omega) (by omega), fx_pq (by omega), ← rg, pm_r]
        intro j hj
        have := rl_le hj
        rw [cpG, if_neg (by omega)]
        exact hE j hj
    · intro k hk
      by_cases hki : k = i
      · subst hki
        refine Or.inr ⟨?_, ?_, n, ?_, ?_⟩
        · simp only [rd_e, pk_us]
        · simp (disch := omega) only [pm_t, rd_e, pk_us]
        · rw [fx_u (by omega) (by omega) (by omega)]
          refine Gd_eqv (g := g) ?_ hG
          intro j hj
          rw [fx_px (rl_le hj), hgs j (rl_le hj), rg]
        · rw [fx_u (by omega) (by omega) (by omega), pm_r]
          intro j hj
          have hj2 := rl_le hj
          show cpG (192 * (k + 1)) 0 0 g' (192 * (k + 1) + j) = _
          rw [fx_px hj2, hgs j hj2, cpG, if_pos (by omega)]
          have : 0 + (192 * (k + 1) + j - 192 * (k + 1)) = j := by omega
          rw [this, ← rg]
          exact hE j hj
      · have hh := h5 k hk
        unfold RI1 at hh ⊢
        simp (disch := omega) only [rd_q, rd_t, px_t, pm_t, rd_e, pk_un, pm_r, fx_u, fx_pq]
        rcases hh with hh | ⟨p, q, n', p1, p2⟩
        · exact Or.inl hh
        · refine Or.inr ⟨p, q, n', p1, ?_⟩
          intro j hj
          have hj2 := rl_le hj
          show cpG (192 * (i + 1)) 0 0 g' (192 * (k + 1) + j) = _
          rw [cpG, if_neg (by omega), rg']
          exact p2 j hj
    · unfold RO at h6 ⊢
      simp (disch := omega) only [rd_t, px_t, pm_t]
      exact h6
    · intro k hk
      have hh := h7 k hk
      unfold RH1 at hh ⊢
      simp (disch := omega) only [rd_t, px_t, pm_t]
      exact hh
    · unfold RN at h8 ⊢
      simp (disch := omega) only [rd_t, px_t, pm_t]
      exact h8
  · refine Sim_same (r := -1) h ?_ ?_
    · rw [F_X10_keep, x_wf ha (by omega) (by omega), bd_i, if_pos rfl]
    · rw [F_X11_keep, m_wf ha (by omega) (by omega), bd_i, if_pos rfl]
theorem s_back (a : Int32) : Sim (F_X10_back a) (F_X11_back a) := by
  intro x m h
  obtain ⟨n, g, g', ex, em, hG, hG', hE, rg, rg'⟩ := Rel_open h
  obtain ⟨h1, h2, h3, h4, h5, h6, h7, h8⟩ := id h
  by_cases ha : IV 0 1 a
  · obtain ⟨i, i1, i2, rfl⟩ := id ha
    have cl : (nI i).toNatClampNeg = i := nI_clamp (by omega)
    rcases h5 i (by omega) with ⟨p, q⟩ | ⟨p, q, n', p1, p2⟩
    · refine Sim_same (r := -2) h ?_ ?_
      · rw [F_X10_back, x_wt (by omega) (by omega) (by omega), bd_i, if_neg (by decide), inb_i (by omega) (by omega), ck_i, cl, if_pos p]
      · rw [F_X11_back, m_wt (by omega) (by omega) (by omega), bd_i, if_neg (by decide), inb_i (by omega) (by omega), ck_i, cl, if_pos q]
    · obtain ⟨gs, hgs, ets⟩ := x_takeAll (q := 0) (q' := i + 1) (x := x) (by omega) p1.2.2.2.2.1
      have e1 : F_X10_back (nI i) x = some (gs 168, px 0 x gs) := by
        rw [F_X10_back, x_wt (by omega) (by omega) (by omega), bd_i, if_neg (by decide), inb_i (by omega) (by omega), ck_i, cl, if_neg (by rw [p]; decide), ets, bd_i, px_s4]
      have hEs : Eqv n' gs (cpG 0 (192 * (i + 1)) 0 g') := by
        intro j hj
        have hj2 := rl_le hj
        rw [cpG, if_pos (by omega), hgs j hj2, rg']
        have : 192 * (i + 1) + (j - 0) = 192 * (i + 1) + j := by omega
        rw [this]
        exact p2 j hj
      have e2 : F_X11_back (nI i) m = some (gs 168, pm m (cpG 0 (192 * (i + 1)) 0 g')) := by
        have ec := m_copyL (m := m) (to := 0) (of := 192 * (i + 1)) (by omega) (by omega) (by omega) 192 0 FU g' (by omega) (by unfold FU; omega)
        rw [← em] at ec
        rw [F_X11_back, m_wt (by omega) (by omega) (by omega), bd_i, if_neg (by decide), inb_i (by omega) (by omega), ck_i, cl, if_neg (by rw [q]; decide), F_X11_copies, i_al, i_lm]
        show bd (L_X11_copies_2 (nI 0) (nI (192 * (i + 1))) FU (nI 0) _) _ = _
        rw [ec, bd_i, inb_l (by decide) (by decide), ck_i, pm_r, hEs.s (j := 168) (by omega) (by omega)]
      refine ⟨_, _, _, e1, e2, Rel_scene2 h (Gd_eqv (g := fx (i + 1) x) (fun j hj => hgs j (rl_le hj)) p1) hEs (fun j hj => ?_), FrX_px, FrM_pm⟩
      rw [cpG, if_neg (by omega), rg']
  · refine Sim_same (r := -1) h ?_ ?_
    · rw [F_X10_back, x_wf ha (by omega) (by omega), bd_i, if_pos rfl]
    · rw [F_X11_back, m_wf ha (by omega) (by omega), bd_i, if_pos rfl]
