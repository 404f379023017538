/-! feed -/
def bN (v : Int64) (i : Nat) : Nat := v.toBitVec.toNat / 2 ^ (8 * (7 - i)) % 256
theorem x_feedL {v : Int64} {n : Nat} (hn : n ≤ 312) (kx : St → Option (Int32 × St)) : ∀ (k i fu : Nat) (τ : St), i + k = 8 → k < fu → τ.1 (0, 0, 0) 1 = nI n → (∀ j, j < i → τ.1 (1, 0, 0) (n + j) &&& 255 = nI (bN v j)) → ∃ f, (∀ j, j < n → f j = τ.1 (1, 0, 0) j) ∧ (∀ j, j < 8 → f (n + j) &&& 255 = nI (bN v j)) ∧ L_X10_feed_15 v fu (nI i) τ kx = kx (uR τ (1, 0, 0) f) := by
  intro k
  induction k with
  | zero =>
    intro i fu τ hi hf h1 h2
    obtain ⟨f, rfl⟩ : ∃ f, fu = f + 1 := ⟨fu - 1, by omega⟩
    have : i = 8 := by omega
    subst this
    refine ⟨τ.1 (1, 0, 0), fun _ _ => rfl, h2, ?_⟩
    rw [uR_id]
    simp (disch := omega) only [L_X10_feed_15, i_lel, Nat.le_refl, ↓reduceIte]
  | succ k ih =>
    intro i fu τ hi hf h1 h2
    obtain ⟨f, rfl⟩ : ∃ f, fu = f + 1 := ⟨fu - 1, by omega⟩
    have hl : ¬ 8 ≤ i := by omega
    have e7 : (7 : Int32) - nI i = nI (7 - i) := pk_sub (a := 7) (by omega)
    have hb := fb_x v (k := 8 * (7 - i)) (by omega)
    generalize hbb : (vp_nar .byte ((((v.toUInt64 >>> ((nI (8 * (7 - i))).toInt64.toUInt64 &&& Int64.toUInt64 63)).toInt64).toInt32).toInt8.toInt32)) = bb at hb
    obtain ⟨f', a1, a2, a3⟩ := ih (i + 1) f (uI τ (1, 0, 0) (n + i) bb) (by omega) (by omega) (by rw [rd_t (by omega)]; exact h1) (fun j hj => by
      rw [rd_e]
      by_cases z : j = i
      · subst z; rw [pk_us]; exact hb
      · rw [pk_un (by omega)]; exact h2 j (by omega))
    refine ⟨f', fun j hj => ?_, a2, ?_⟩
    · rw [a1 j hj, rd_e, pk_un (by omega)]
    · rw [uI_R, uR_R] at a3
      rw [← a3, ← uI_R]
      simp (disch := omega) only [L_X10_feed_15, i_lel, hl, ↓reduceIte, h1, nI_add, inb_i, ck_i, nI_clamp, nam_i, i_al, e7, i_lm, hbb]
theorem m_feedL {v : Int64} {n : Nat} (hn : n ≤ 312) : ∀ (k i fu : Nat) (τ : St), i + k = 8 → k < fu → τ.1 (40, 0, 0) 8 = nI (n + i) → (∀ j, j < i → τ.1 (47, 0, 0) (n + j) = nI (bN v j)) → ∃ f, (∀ j, j < n → f j = τ.1 (47, 0, 0) j) ∧ (∀ j, j < 8 → f (n + j) = nI (bN v j)) ∧ L_X11_feed_19 v fu (nI (8 * k) - 8) τ = some (nI (n + 8), uI (uR τ (47, 0, 0) f) (40, 0, 0) 8 (nI (n + 8))) := by
  intro k
  induction k with
  | zero =>
    intro i fu τ hi hf h1 h2
    obtain ⟨f, rfl⟩ : ∃ f, fu = f + 1 := ⟨fu - 1, by omega⟩
    have : i = 8 := by omega
    subst this
    refine ⟨τ.1 (47, 0, 0), fun _ _ => rfl, h2, ?_⟩
    have e : (nI (8 * 0) - 8 : Int32) < 0 := by decide
    have e2 : uI τ (40, 0, 0) 8 (nI (n + 8)) = τ := by rw [← h1, uI_R, upd_id, uR_id]
    rw [uR_id, e2]
    simp only [L_X11_feed_19, e, ↓reduceIte, h1]
  | succ k ih =>
    intro i fu τ hi hf h1 h2
    obtain ⟨f, rfl⟩ : ∃ f, fu = f + 1 := ⟨fu - 1, by omega⟩
    have e8 : nI (8 * (k + 1)) - 8 = nI (8 * k) := pk_sub (b := 8) (a := 8 * (k + 1)) (by omega)
    have hneg : ¬ nI (8 * k) < 0 := nI_pos (by omega)
    have hb := fb_m v (k := 8 * k) (by omega)
    have hbn : v.toBitVec.toNat / 2 ^ (8 * k) % 256 = bN v i := by
      unfold bN
      have : 7 - i = k := by omega
      rw [this]
    have em8 : nI (8 * k) + (-8) = nI (8 * k) - 8 := by rw [Int32.sub_eq_add_neg]
    obtain ⟨f', a1, a2, a3⟩ := ih (i + 1) f (uI (uI τ (47, 0, 0) (n + i) (nI (bN v i))) (40, 0, 0) 8 (nI (n + i + 1))) (by omega) (by omega) (by rw [rd_e, pk_us]; rfl) (fun j hj => by
      rw [rd_t (by omega), rd_e]
      by_cases z : j = i
      · subst z; rw [pk_us]
      · rw [pk_un (by omega)]; exact h2 j (by omega))
    refine ⟨f', fun j hj => ?_, a2, ?_⟩
    · rw [a1 j hj, rd_t (by omega), rd_e, pk_un (by omega)]
    · have e3 : uI (uR (uI (uI τ (47, 0, 0) (n + i) (nI (bN v i))) (40, 0, 0) 8 (nI (n + i + 1))) (47, 0, 0) f') (40, 0, 0) 8 (nI (n + 8)) = uI (uR τ (47, 0, 0) f') (40, 0, 0) 8 (nI (n + 8)) := by
        refine Prod.ext ?_ rfl
        funext d k'
        simp only [uI, uR]
        by_cases z1 : d = (40, 0, 0)
        · subst z1
          by_cases z2 : k' = 8 <;> simp [z2]
        · by_cases z3 : d = (47, 0, 0) <;> simp [z1, z3]
      rw [e3] at a3
      rw [← a3, e8]
      simp (disch := omega) only [L_X11_feed_19, hneg, ↓reduceIte, h1, inb_i, ck_i, nI_clamp, nam_i, rd_t, i_al, hb, hbn, em8]
theorem s_feed (v : Int64) : Sim (F_X10_feed v) (F_X11_feed v) := by
  intro x m h
  obtain ⟨h1, h2, h3, h4, h5, h6, h7, h8⟩ := id h
  obtain ⟨n, hn, hx, hm, hb⟩ := h1
  by_cases hc : n ≤ 312
  · obtain ⟨f, a1, a2, a3⟩ := x_feedL (v := v) hc (fun (σ5 : St) => nam (uI σ5 (0, 0, 0) 1 ((σ5.1 (0, 0, 0) 1) + (8 : Int32))) fun σ6 => some (σ6.1 (0, 0, 0) 1, σ6)) 8 0 FU x (by omega) (by unfold FU; omega) hx (fun j hj => by omega)
    obtain ⟨f', b1, b2, b3⟩ := m_feedL (v := v) hc 8 0 FU m (by omega) (by unfold FU; omega) hm (fun j hj => by omega)
    have c2 : n + 8 ≤ 320 := by omega
    refine ⟨nI (n + 8), uI (uR x (1, 0, 0) f) (0, 0, 0) 1 (nI (n + 8)), uI (uR m (47, 0, 0) f') (40, 0, 0) 8 (nI (n + 8)), ?_, ?_, ⟨?_, ?_, ?_, ?_, ?_, ?_, ?_, ?_⟩, FrX_u (by omega) (FrX_R (by omega) FrX_rfl), FrM_u (by omega) (FrM_R (by omega) FrM_rfl)⟩
    · have e0 : x.1 (0, 0, 0) 1 ≤ 312 := by rw [hx, i_ler (by omega) (by decide)]; exact hc
      rw [F_X10_feed, if_pos e0]
      refine Eq.trans a3 ?_
      simp (disch := omega) only [nam_i, rr_t, hx, i_al, rd_e, pk_us]
    · have e0 : m.1 (40, 0, 0) 8 + 8 ≤ 320 := by rw [hm, i_al, i_ler (by omega) (by decide)]; exact c2
      rw [F_X11_feed, if_pos e0]
      exact b3
    · refine ⟨n + 8, c2, ?_, ?_, fun j hj => ?_⟩
      · simp only [rd_e, pk_us]
      · simp only [rd_e, pk_us]
      · simp (disch := omega) only [rd_t, rr_e]
        by_cases z : j < n
        · rw [a1 j z, b1 j z]; exact hb j z
        · obtain ⟨w, hw, rfl⟩ : ∃ w, w < 8 ∧ j = n + w := ⟨j - n, by omega, by omega⟩
          exact ⟨bN v w, Nat.mod_lt _ (by decide), a2 w hw, b2 w hw⟩
    · unfold RF at h2 ⊢
      (try simp (disch := omega) only [rd_t, rd_q, rd_j, rd_e, rr_t, rr_q, rr_e, pk_un, pk_us, fx_u, fx_r])
      exact h2
    · unfold RU at h3 ⊢
      (try simp (disch := omega) only [rd_t, rd_q, rd_j, rd_e, rr_t, rr_q, rr_e, pk_un, pk_us, fx_u, fx_r])
      exact h3
    · unfold RS at h4 ⊢
      (try simp (disch := omega) only [rd_t, rd_q, rd_j, rd_e, rr_t, rr_q, rr_e, pk_un, pk_us, fx_u, fx_r])
      exact h4
    · intro i hi
      have hh := h5 i hi
      unfold RI1 at hh ⊢
      (try simp (disch := omega) only [rd_t, rd_q, rd_j, rd_e, rr_t, rr_q, rr_e, pk_un, pk_us, fx_u, fx_r])
      exact hh
    · unfold RO at h6 ⊢
      (try simp (disch := omega) only [rd_t, rd_q, rd_j, rd_e, rr_t, rr_q, rr_e, pk_un, pk_us, fx_u, fx_r])
      exact h6
    · intro i hi
      have hh := h7 i hi
      unfold RH1 at hh ⊢
      (try simp (disch := omega) only [rd_t, rd_q, rd_j, rd_e, rr_t, rr_q, rr_e, pk_un, pk_us, fx_u, fx_r])
      exact hh
    · unfold RN at h8 ⊢
      (try simp (disch := omega) only [rd_t, rd_q, rd_j, rd_e, rr_t, rr_q, rr_e, pk_un, pk_us, fx_u, fx_r])
      exact h8
  · refine Sim_same (r := -3) h ?_ ?_
    · have e0 : ¬ x.1 (0, 0, 0) 1 ≤ 312 := by rw [hx, i_ler (by omega) (by decide)]; exact hc
      rw [F_X10_feed, if_neg e0]
    · have e0 : ¬ m.1 (40, 0, 0) 8 + 8 ≤ 320 := by rw [hm, i_al, i_ler (by omega) (by decide)]; omega
      rw [F_X11_feed, if_neg e0]
