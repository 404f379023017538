/-! calls of the tape, the rules, told lives, sheets -/
section FXU
variable {q a b c k : Nat} {x : St} {v : Int32} {f : Nat → Int32}
theorem fx_u (h7 : a ≠ 7) (h8 : a ≠ 8) (h10 : a ≠ 10) : fx q (uI x (a, b, c) k v) = fx q x := fx_cong (rd_t (fun e => h8 e.symm)) (fun _ => rd_t (fun e => h10 e.symm)) (rd_t (fun e => h7 e.symm))
theorem fx_r (h7 : a ≠ 7) (h8 : a ≠ 8) (h10 : a ≠ 10) : fx q (uR x (a, b, c) f) = fx q x := fx_cong (rr_t (fun e => h8 e.symm)) (fun _ => rr_t (fun e => h10 e.symm)) (rr_t (fun e => h7 e.symm))
end FXU
theorem s_fault : Sim F_X10_fault F_X11_fault := by
  intro x m h
  exact Sim_same (r := x.1 (0, 0, 0) 2) h rfl (by rw [F_X11_fault, ← h.2.1])
theorem s_torn : Sim F_X10_torn F_X11_torn := by
  intro x m h
  exact Sim_same (r := x.1 (0, 0, 0) 11) h rfl (by rw [F_X11_torn, ← h.2.2.2.2.2.2.2])
theorem s_rule (a : Int32) : Sim (F_X10_rule a) (F_X11_rule a) := by
  intro x m h
  by_cases ha : IV 0 8 a
  · obtain ⟨k, h1, h2, rfl⟩ := ha
    refine Sim_same (r := x.1 (4, 0, 0) k) h ?_ ?_
    · rw [F_X10_rule, x_wt (by omega) (by omega) (by omega), bd_i, if_neg (by decide), x_value (by omega), bd_i]
    · rw [F_X11_rule, m_wt (by omega) (by omega) (by omega), bd_i, if_neg (by decide), inb_i (by omega) (by omega), ck_i, nI_clamp (by omega), h.2.2.1.1]
  · refine Sim_same (r := -1) h ?_ ?_
    · rw [F_X10_rule, x_wf ha (by omega) (by omega), bd_i, if_pos rfl]
    · rw [F_X11_rule, m_wf ha (by omega) (by omega), bd_i, if_pos rfl]
theorem s_end (a : Int32) : Sim (F_X10_end a) (F_X11_end a) := by
  intro x m h
  obtain ⟨h1, h2, h3, h4, h5, h6, h7, h8⟩ := id h
  obtain ⟨n, hn, hx, hm, hb⟩ := h1
  by_cases ha : IV 0 n a
  · obtain ⟨k, k1, k2, rfl⟩ := ha
    refine ⟨nI n, uI x (0, 0, 0) 1 (nI k), uI m (40, 0, 0) 8 (nI k), ?_, ?_, ⟨?_, ?_, ?_, ?_, ?_, ?_, ?_, ?_⟩, FrX_u (by omega) FrX_rfl, FrM_u (by omega) FrM_rfl⟩
    · rw [F_X10_end, hx, x_vt k2 (by omega), bd_i, if_neg (by decide)]
      simp only [nam_i, hx]
    · rw [F_X11_end, hm, m_vt k2 (by omega), bd_i, if_neg (by decide)]
      simp only [nam_i, hm]
    · refine ⟨k, by omega, ?_, ?_, fun j hj => ?_⟩
      · simp only [rd_e, pk_us]
      · simp only [rd_e, pk_us]
      · simp (disch := omega) only [rd_t]
        exact hb j (by omega)
    · unfold RF at h2 ⊢
      (try simp (disch := omega) only [rd_t, rd_q, rd_j, rd_e, rr_t, rr_q, rr_e, pk_un, pk_us, fx_u, fx_r])
      exact h2
    · unfold RU at h3 ⊢
      (try simp (disch := omega) only [rd_t, rd_q, rd_j, rd_e, rr_t, rr_q, rr_e, pk_un, pk_us, fx_u, fx_r])
      exact h3
    · unfold RS at h4 ⊢
      (try simp (disch := omega) only [rd_t, rd_q, rd_j, rd_e, rr_t, rr_q, rr_e, pk_un, pk_us, fx_u, fx_r])
      exact h4
    · intro i hi
      have hh := h5 i hi
      unfold RI1 at hh ⊢
      (try simp (disch := omega) only [rd_t, rd_q, rd_j, rd_e, rr_t, rr_q, rr_e, pk_un, pk_us, fx_u, fx_r])
      exact hh
    · unfold RO at h6 ⊢
      (try simp (disch := omega) only [rd_t, rd_q, rd_j, rd_e, rr_t, rr_q, rr_e, pk_un, pk_us, fx_u, fx_r])
      exact h6
    · intro i hi
      have hh := h7 i hi
      unfold RH1 at hh ⊢
      (try simp (disch := omega) only [rd_t, rd_q, rd_j, rd_e, rr_t, rr_q, rr_e, pk_un, pk_us, fx_u, fx_r])
      exact hh
    · unfold RN at h8 ⊢
      (try simp (disch := omega) only [rd_t, rd_q, rd_j, rd_e, rr_t, rr_q, rr_e, pk_un, pk_us, fx_u, fx_r])
      exact h8
  · refine Sim_same (r := -1) h ?_ ?_
    · rw [F_X10_end, hx, x_vf ha (by omega), bd_i, if_pos rfl]
    · rw [F_X11_end, hm, m_vf ha (by omega), bd_i, if_pos rfl]
theorem s_forget : Sim F_X10_forget F_X11_forget := by
  intro x m h
  obtain ⟨h1, h2, h3, h4, h5, h6, h7, h8⟩ := id h
  obtain ⟨n, hn, hx, hm, hb⟩ := h6
  refine ⟨nI n, uI x (20, 0, 0) 4 0, uI m (40, 0, 0) 23 0, ?_, ?_, ⟨?_, ?_, ?_, ?_, ?_, ?_, ?_, ?_⟩, FrX_u (by omega) FrX_rfl, FrM_u (by omega) FrM_rfl⟩
  · simp only [F_X10_forget, nam_i, hx]
  · simp only [F_X11_forget, nam_i, hm]
  · unfold RT at h1 ⊢
    (try simp (disch := omega) only [rd_t, rd_q, rd_j, rd_e, rr_t, rr_q, rr_e, pk_un, pk_us, fx_u, fx_r])
    exact h1
  · unfold RF at h2 ⊢
    (try simp (disch := omega) only [rd_t, rd_q, rd_j, rd_e, rr_t, rr_q, rr_e, pk_un, pk_us, fx_u, fx_r])
    exact h2
  · unfold RU at h3 ⊢
    (try simp (disch := omega) only [rd_t, rd_q, rd_j, rd_e, rr_t, rr_q, rr_e, pk_un, pk_us, fx_u, fx_r])
    exact h3
  · unfold RS at h4 ⊢
    (try simp (disch := omega) only [rd_t, rd_q, rd_j, rd_e, rr_t, rr_q, rr_e, pk_un, pk_us, fx_u, fx_r])
    exact h4
  · intro i hi
    have hh := h5 i hi
    unfold RI1 at hh ⊢
    (try simp (disch := omega) only [rd_t, rd_q, rd_j, rd_e, rr_t, rr_q, rr_e, pk_un, pk_us, fx_u, fx_r])
    exact hh
  · refine ⟨0, by omega, ?_, ?_, fun j hj => by omega⟩
    · simp only [rd_e, pk_us]; rfl
    · simp only [rd_e, pk_us]; rfl
  · intro i hi
    have hh := h7 i hi
    unfold RH1 at hh ⊢
    (try simp (disch := omega) only [rd_t, rd_q, rd_j, rd_e, rr_t, rr_q, rr_e, pk_un, pk_us, fx_u, fx_r])
    exact hh
  · unfold RN at h8 ⊢
    (try simp (disch := omega) only [rd_t, rd_q, rd_j, rd_e, rr_t, rr_q, rr_e, pk_un, pk_us, fx_u, fx_r])
    exact h8
theorem nar_b {b : Int32} (hb : b = 0 ∨ b = 1) : vp_nar .boolean b = b := by
  rcases hb with rfl | rfl <;> rfl
theorem s_saw (a1 a2 a3 a4 : Int32) (h3b : a3 = 0 ∨ a3 = 1) : Sim (F_X10_saw a1 a2 a3 a4) (F_X11_saw a1 a2 a3 a4) := by
  intro x m h
  obtain ⟨h1, h2, h3, h4, h5, h6, h7, h8⟩ := id h
  obtain ⟨n, hn, hx, hm, hb⟩ := h6
  by_cases ha1 : IV 1 60 a1
  · by_cases ha2 : IV 0 99 a2
    · by_cases ha4 : IV 0 999 a4
      · obtain ⟨s, s1, s2, rfl⟩ := id ha1
        obtain ⟨t, t1, t2, rfl⟩ := id ha2
        obtain ⟨l, l1, l2, rfl⟩ := id ha4
        have hfl : ∀ σ, F_X11_flag a3 σ = some (a3, σ) := fun σ => by rcases h3b with rfl | rfl <;> rfl
        by_cases hn12 : n = 12
        · have e12 : ¬ n < 12 := by omega
          refine Sim_same (r := -3) h ?_ ?_
          · rw [F_X10_saw, x_sizet s1 s2, bd_i, if_neg (by decide), x_heatt (by omega), bd_i, if_neg (by decide), x_wt (by omega) (by omega) (by omega), bd_i, if_neg (by decide)]
            simp (disch := omega) only [F_X9_tell, hx, i_ltr, e12, ↓reduceIte, bd_i]
          · rw [F_X11_saw, m_sizet s1 s2, bd_i, if_neg (by decide), m_heatt (by omega), bd_i, if_neg (by decide), m_lifet (by omega), bd_i, if_neg (by decide)]
            simp (disch := omega) only [hm, i_eqr, hn12, ↓reduceIte]
        · have e12 : n < 12 := by omega
          refine ⟨nI (n + 1), uI (uI (uI (uI (uI x (21, 0, 0) n (nI s)) (22, 0, 0) n (nI t)) (24, 0, 0) n a3) (23, 0, 0) n (nI l)) (20, 0, 0) 4 (nI (n + 1)), uI (uI (uI (uI (uI m (51, 0, 0) (4 * n) (nI s)) (51, 0, 0) (4 * n + 1) (nI t)) (51, 0, 0) (4 * n + 2) a3) (51, 0, 0) (4 * n + 3) (nI l)) (40, 0, 0) 23 (nI (n + 1)), ?_, ?_, ⟨?_, ?_, ?_, ?_, ?_, ?_, ?_, ?_⟩, FrX_u (by omega) (FrX_u (by omega) (FrX_u (by omega) (FrX_u (by omega) (FrX_u (by omega) FrX_rfl)))), FrM_u (by omega) (FrM_u (by omega) (FrM_u (by omega) (FrM_u (by omega) (FrM_u (by omega) FrM_rfl))))⟩
          · rw [F_X10_saw, x_sizet s1 s2, bd_i, if_neg (by decide), x_heatt (by omega), bd_i, if_neg (by decide), x_wt (by omega) (by omega) (by omega), bd_i, if_neg (by decide)]
            simp (disch := omega) only [F_X9_tell, hx, i_ltr, e12, ↓reduceIte, bd_i, inb_i, ck_i, nam_i, rd_t, rd_e, pk_us, nI_clamp, i_al, ft10, nar_b h3b]
          · rw [F_X11_saw, m_sizet s1 s2, bd_i, if_neg (by decide), m_heatt (by omega), bd_i, if_neg (by decide), m_lifet (by omega), bd_i, if_neg (by decide)]
            simp (disch := omega) only [hm, i_eqr, hn12, ↓reduceIte, bd_i, inb_i, i_lm, ck_i, nam_i, rd_t, rd_e, pk_us, nI_clamp, i_al, hfl]
          · unfold RT at h1 ⊢
            (try simp (disch := omega) only [rd_t, rd_q, rd_j, rd_e, rr_t, rr_q, rr_e, pk_un, pk_us, fx_u, fx_r])
            exact h1
          · unfold RF at h2 ⊢
            (try simp (disch := omega) only [rd_t, rd_q, rd_j, rd_e, rr_t, rr_q, rr_e, pk_un, pk_us, fx_u, fx_r])
            exact h2
          · unfold RU at h3 ⊢
            (try simp (disch := omega) only [rd_t, rd_q, rd_j, rd_e, rr_t, rr_q, rr_e, pk_un, pk_us, fx_u, fx_r])
            exact h3
          · unfold RS at h4 ⊢
            (try simp (disch := omega) only [rd_t, rd_q, rd_j, rd_e, rr_t, rr_q, rr_e, pk_un, pk_us, fx_u, fx_r])
            exact h4
          · intro i hi
            have hh := h5 i hi
            unfold RI1 at hh ⊢
            (try simp (disch := omega) only [rd_t, rd_q, rd_j, rd_e, rr_t, rr_q, rr_e, pk_un, pk_us, fx_u, fx_r])
            exact hh
          · refine ⟨n + 1, by omega, ?_, ?_, fun i hi => ?_⟩
            · simp only [rd_e, pk_us]
            · simp only [rd_e, pk_us]
            · by_cases hin : i = n
              · subst hin
                simp (disch := omega) only [rd_t, rd_e, pk_un, pk_us]
                exact ⟨ha1, trivial, ha2, trivial, h3b, trivial, trivial⟩
              · have hh := hb i (by omega)
                simp (disch := omega) only [rd_t, rd_e, pk_un, pk_us]
                exact hh
          · intro i hi
            have hh := h7 i hi
            unfold RH1 at hh ⊢
            (try simp (disch := omega) only [rd_t, rd_q, rd_j, rd_e, rr_t, rr_q, rr_e, pk_un, pk_us, fx_u, fx_r])
            exact hh
          · unfold RN at h8 ⊢
            (try simp (disch := omega) only [rd_t, rd_q, rd_j, rd_e, rr_t, rr_q, rr_e, pk_un, pk_us, fx_u, fx_r])
            exact h8
      · refine Sim_same (r := -1) h ?_ ?_
        · obtain ⟨s, s1, s2, rfl⟩ := id ha1
          obtain ⟨t, t1, t2, rfl⟩ := id ha2
          rw [F_X10_saw, x_sizet s1 s2, bd_i, if_neg (by decide), x_heatt (by omega), bd_i, if_neg (by decide), x_wf ha4 (by omega) (by omega), bd_i, if_pos rfl]
        · obtain ⟨s, s1, s2, rfl⟩ := id ha1
          obtain ⟨t, t1, t2, rfl⟩ := id ha2
          rw [F_X11_saw, m_sizet s1 s2, bd_i, if_neg (by decide), m_heatt (by omega), bd_i, if_neg (by decide), m_lifef ha4, bd_i, if_pos rfl]
    · refine Sim_same (r := -1) h ?_ ?_
      · obtain ⟨s, s1, s2, rfl⟩ := id ha1
        rw [F_X10_saw, x_sizet s1 s2, bd_i, if_neg (by decide), x_heatf ha2, bd_i, if_pos rfl]
      · obtain ⟨s, s1, s2, rfl⟩ := id ha1
        rw [F_X11_saw, m_sizet s1 s2, bd_i, if_neg (by decide), m_heatf ha2, bd_i, if_pos rfl]
  · refine Sim_same (r := -1) h ?_ ?_
    · rw [F_X10_saw, x_sizef ha1, bd_i, if_pos rfl]
    · rw [F_X11_saw, m_sizef ha1, bd_i, if_pos rfl]
