/-! the first store -/
theorem k0_a : (k_all sgz).1 (0, 0, 0) 1 = 0 ∧ (k_all sgz).1 (0, 0, 0) 2 = 0 ∧ (k_all sgz).1 (0, 0, 0) 11 = 0 := by decide +kernel
theorem k0_7 : ∀ k, k < 11 → (k_all sgz).1 (7, 0, 0) k = 0 := by decide +kernel
theorem k0_8 : ∀ k, k < 96 → (k_all sgz).1 (8, 0, 0) k = 4 := by decide +kernel
theorem k0_4 : ∀ k, k < 9 → (k_all sgz).1 (4, 0, 0) k = dft k := by decide +kernel
theorem k0_12 : (k_all sgz).1 (12, 0, 0) 1 = 0 ∧ (k_all sgz).1 (12, 1, 0) 1 = 0 ∧ (k_all sgz).1 (20, 0, 0) 4 = 0 := by decide +kernel
theorem k0_26 : ∀ q, q < 4 → (k_all sgz).1 (26, q, 0) 1 = -1 ∧ (k_all sgz).1 (26, q, 0) 2 = 0 ∧ (k_all sgz).1 (52, 0, 0) q = -4 ∧ (k_all sgz).1 (53, 0, 0) q = 0 := by decide +kernel
theorem k0_27 : ∀ q, q < 4 → ∀ j, j < 40 → (k_all sgz).1 (27, q, 0) j = 0 ∧ (k_all sgz).1 (54, 0, 0) (40 * q + j) = 0 := by decide +kernel
theorem k0_40 : ∀ k, k < 30 → (k_all sgz).1 (40, 0, 0) k = 0 := by decide +kernel
theorem k0_41 : (k_all sgz).1 (41, 0, 0) 175 = 0 := by decide +kernel
set_option maxRecDepth 40000 in
theorem k0_4r (j : Nat) : (k_all sgz).1 (4, 0, 0) j = va_cpy (roC 102) (fun _ => 0) 0 0 9 j := rfl
theorem k0_43 (j : Nat) : (k_all sgz).1 (43, 0, 0) j = 0 := rfl
theorem first_ok : ∃ σ1 σ2, F_X11_firstDraft (k_all sgz) = some ((), σ1) ∧ F_X11_keepDraft σ1 = some ((), σ2) ∧ Rel σ2 σ2 := by
  obtain ⟨σ1, e1, e2, e3, e4, e5, e6⟩ := m_first (k_all sgz)
  refine ⟨σ1, _, e1, m_keepD σ1, ?_⟩
  have a40 := k0_40
  have a41 := k0_41
  have a43 := k0_43
  have a4r := k0_4r
  have a4 := k0_4
  have a7 := k0_7
  have a8 := k0_8
  have a12 := k0_12
  have a26 := k0_26
  have a27 := k0_27
  have aa := k0_a
  generalize k_all sgz = y at *
  have f41 : σ1.1 (41, 0, 0) = y.1 (41, 0, 0) := e2 _ (by decide) (by decide) (by decide) (by decide)
  have f43 : σ1.1 (43, 0, 0) = y.1 (43, 0, 0) := e2 _ (by decide) (by decide) (by decide) (by decide)
  generalize hσ : uI (uI (uI (uR (pm σ1 (upd (kdF (σ1.1 (46, 0, 0)) 0 (σ1.1 (41, 0, 0))) 175 (σ1.1 (41, 0, 0) 175))) (43, 0, 0) (kd9 (σ1.1 (44, 0, 0)) 0 (σ1.1 (43, 0, 0)))) (40, 0, 0) 23 0) (42, 0, 0) 0 0) (42, 0, 0) 1 0 = σ2
  have hX : ∀ a b c, a < 40 ∨ 47 ≤ a → σ2.1 (a, b, c) = y.1 (a, b, c) := by
    intro a b c h
    rw [← hσ, rd_t (by omega), rd_t (by omega), rd_t (by omega), rr_t (by omega), pm_t (by omega)]
    have ne : ∀ q, 40 ≤ q → q ≤ 46 → ((a, b, c) : Id3) ≠ (q, 0, 0) := fun q h1 h2 w => by have := (Prod.mk.inj w).1; omega
    exact e2 _ (ne 44 (by omega) (by omega)) (ne 45 (by omega) (by omega)) (ne 46 (by omega) (by omega)) (ne 40 (by omega) (by omega))
  have h40 : ∀ k, k < 30 → σ2.1 (40, 0, 0) k = 0 := by
    intro k hk
    rw [← hσ, rd_t (by omega), rd_t (by omega), rd_e]
    by_cases w : k = 23
    · subst w; rw [pk_us]
    · rw [pk_un w, rr_t (by omega), pm_t (by omega), e3]
      by_cases w2 : k = 5
      · subst w2; rw [pk_us]
      · rw [pk_un w2]; exact a40 k hk
  have h43 : σ2.1 (43, 0, 0) = y.1 (4, 0, 0) := by
    rw [← hσ, rd_t (by omega), rd_t (by omega), rd_t (by omega), rr_e]
    funext j
    unfold kd9
    by_cases hj : j < 9
    · rw [if_pos ⟨by omega, hj⟩, e4 j hj, a4 j hj]
    · rw [if_neg (by omega), f43, a43, a4r, pk_cpy_out (Or.inr (by omega))]
  have h41 : σ2.1 (41, 0, 0) = upd (kdF (σ1.1 (46, 0, 0)) 0 (σ1.1 (41, 0, 0))) 175 (σ1.1 (41, 0, 0) 175) := by
    rw [← hσ, rd_t (by omega), rd_t (by omega), rd_t (by omega), rr_t (by omega), pm_r]
  have h42 : σ2.1 (42, 0, 0) 0 = 0 ∧ σ2.1 (42, 0, 0) 1 = 0 := by
    rw [← hσ]
    refine ⟨?_, ?_⟩
    · rw [rd_e, pk_un (by omega), rd_e, pk_us]
    · rw [rd_e, pk_us]
  clear hσ
  have hfx : fx 0 σ2 = fx 0 y := fx_cong (hX 8 0 0 (by omega)) (fun d => hX 10 0 d (by omega)) (hX 7 0 0 (by omega))
  have v8 : ∀ j, j < 96 → fx 0 y j = 4 := fun j hj => by rw [fx_c hj]; exact a8 j hj
  have v7 : fx 0 y 168 = 0 ∧ fx 0 y 169 = 0 ∧ fx 0 y 170 = 0 ∧ fx 0 y 171 = 0 ∧ fx 0 y 172 = 0 ∧ fx 0 y 173 = 0 ∧ fx 0 y 174 = 0 ∧ fx 0 y 175 = 0 ∧ fx 0 y 176 = 0 := ⟨a7 4 (by omega), a7 3 (by omega), a7 6 (by omega), a7 7 (by omega), a7 8 (by omega), a7 9 (by omega), a7 10 (by omega), a7 5 (by omega), a7 2 (by omega)⟩
  refine ⟨⟨0, by omega, ?_, ?_, fun j hj => by omega⟩, ?_, ⟨?_, ?_⟩, ⟨0, ?_, ?_⟩, ?_, ⟨0, by omega, ?_, ?_, fun j hj => by omega⟩, ?_, ?_⟩
  · rw [hX 0 0 0 (by omega)]; exact aa.1
  · exact h40 8 (by omega)
  · unfold RF
    rw [hX 0 0 0 (by omega), aa.2.1, h40 13 (by omega)]
  · rw [h43, hX 4 0 0 (by omega)]
  · rw [hX 4 0 0 (by omega)]
    have q1 := RG_dft
    unfold RG at q1 ⊢
    rw [a4 0 (by omega), a4 1 (by omega), a4 2 (by omega), a4 3 (by omega), a4 4 (by omega), a4 5 (by omega), a4 6 (by omega), a4 7 (by omega), a4 8 (by omega)]
    exact q1
  · rw [hfx]
    exact ⟨by omega, by rw [v7.2.2.2.2.2.2.2.2]; rfl, fun c hc => ⟨4, by omega, v8 c hc⟩, ⟨0, by omega, v7.2.1⟩, Or.inl v7.2.2.1, fun d hd => absurd hd (by omega), by unfold sm; omega⟩
  · rw [hfx, h41]
    intro j hj
    have hj' : j < 96 ∨ (168 ≤ j ∧ j ≤ 176) := by rcases hj with q | q | q <;> omega
    rcases hj' with q | q
    · rw [pk_un (by omega), v8 j q]
      unfold kdF
      rw [if_pos (by omega), if_pos q, e5 j q]
    · by_cases e : j = 175
      · subst e
        rw [pk_us, f41, a41, v7.2.2.2.2.2.2.2.1]
      · rw [pk_un e]
        have ek : kdF (σ1.1 (46, 0, 0)) 0 (σ1.1 (41, 0, 0)) j = 0 := by
          unfold kdF
          rw [if_pos (by omega), if_neg (by omega)]
        rw [ek]
        obtain ⟨w1, w2, w3, w4, w5, w6, w7, w8, w9⟩ := v7
        have : j = 168 ∨ j = 169 ∨ j = 170 ∨ j = 171 ∨ j = 172 ∨ j = 173 ∨ j = 174 ∨ j = 176 := by omega
        rcases this with rfl | rfl | rfl | rfl | rfl | rfl | rfl | rfl
        · exact w1.symm
        · exact w2.symm
        · exact w3.symm
        · exact w4.symm
        · exact w5.symm
        · exact w6.symm
        · exact w7.symm
        · exact w9.symm
  · intro i hi
    left
    have : i = 0 ∨ i = 1 := by omega
    rcases this with rfl | rfl
    · exact ⟨by rw [hX 12 0 0 (by omega)]; exact a12.1, h42.1⟩
    · exact ⟨by rw [hX 12 1 0 (by omega)]; exact a12.2.1, h42.2⟩
  · rw [hX 20 0 0 (by omega)]; exact a12.2.2
  · exact h40 23 (by omega)
  · intro k hk
    obtain ⟨b1, b2, b3, b4⟩ := a26 k hk
    refine ⟨0, by omega, ?_, ?_, Or.inl ⟨?_, ?_⟩, fun j hj => ?_⟩
    · rw [hX 26 k 0 (by omega)]; exact b2
    · rw [hX 53 0 0 (by omega)]; exact b4
    · rw [hX 26 k 0 (by omega)]; exact b1
    · rw [hX 52 0 0 (by omega)]; exact b3
    · rw [hX 54 0 0 (by omega), hX 27 k 0 (by omega), (a27 k hk j hj).1, (a27 k hk j hj).2]
  · unfold RN
    rw [hX 0 0 0 (by omega), aa.2.2, h40 28 (by omega)]
