/-! the text: drafts -/
def dft : Nat → Int32 := roC 102
theorem m_fd46 (kx : St → Option (Unit × St)) : ∀ (k i fu : Nat) (τ : St), i + k = 96 → k < fu → L_X11_firstDraft_7 fu (nI i) τ kx = kx (uR τ (46, 0, 0) (filR 4 i 96 (τ.1 (46, 0, 0)))) := by
  intro k
  induction k with
  | zero =>
    intro i fu τ hk hf
    obtain ⟨f, rfl⟩ : ∃ f, fu = f + 1 := ⟨fu - 1, by omega⟩
    have e : i = 96 := by omega
    subst e
    rw [fil_0, uR_id]
    simp (disch := omega) only [L_X11_firstDraft_7, i_lel, Nat.le_refl, ↓reduceIte]
  | succ k ih =>
    intro i fu τ hk hf
    obtain ⟨f, rfl⟩ : ∃ f, fu = f + 1 := ⟨fu - 1, by omega⟩
    have z : ¬ 96 ≤ i := by omega
    have := ih (i + 1) f (uI τ (46, 0, 0) i 4) (by omega) (by omega)
    rw [uI_R, uR_R, uR_self, fil_s (by omega)] at this
    rw [← this, ← uI_R, L_X11_firstDraft_7.eq_2]
    simp (disch := omega) only [i_lel, z, ↓reduceIte, inb_i, ck_i, nI_clamp, nam_i, i_al]
theorem m_fd45 (kx : St → Option (Unit × St)) : ∀ (k i fu : Nat) (τ : St), i + k = 9 → k < fu → L_X11_firstDraft_28 fu (nI i) τ kx = kx (uR τ (45, 0, 0) (filR 0 i 9 (τ.1 (45, 0, 0)))) := by
  intro k
  induction k with
  | zero =>
    intro i fu τ hk hf
    obtain ⟨f, rfl⟩ : ∃ f, fu = f + 1 := ⟨fu - 1, by omega⟩
    have e : i = 9 := by omega
    subst e
    rw [fil_0, uR_id]
    simp (disch := omega) only [L_X11_firstDraft_28, i_lel, Nat.le_refl, ↓reduceIte]
  | succ k ih =>
    intro i fu τ hk hf
    obtain ⟨f, rfl⟩ : ∃ f, fu = f + 1 := ⟨fu - 1, by omega⟩
    have z : ¬ 9 ≤ i := by omega
    have := ih (i + 1) f (uI τ (45, 0, 0) i 0) (by omega) (by omega)
    rw [uI_R, uR_R, uR_self, fil_s (by omega)] at this
    rw [← this, ← uI_R, L_X11_firstDraft_28.eq_2]
    simp (disch := omega) only [i_lel, z, ↓reduceIte, inb_i, ck_i, nI_clamp, nam_i, i_al, nar0]
theorem m_first (m : St) : ∃ τ, F_X11_firstDraft m = some ((), τ) ∧ (∀ d : Id3, d ≠ (44, 0, 0) → d ≠ (45, 0, 0) → d ≠ (46, 0, 0) → d ≠ (40, 0, 0) → τ.1 d = m.1 d) ∧ τ.1 (40, 0, 0) = upd (m.1 (40, 0, 0)) 5 0 ∧ (∀ k, k < 9 → τ.1 (44, 0, 0) k = dft k) ∧ (∀ j, j < 96 → τ.1 (46, 0, 0) j = 4) ∧ (∀ k, k < 9 → τ.1 (45, 0, 0) k = 0) := by
  generalize hτ : uI (uI (uI (uI (uI (uI (uI (uI (uI (uR (uR (uI m (40, 0, 0) 5 0) (46, 0, 0) (filR 4 0 96 ((uI m (40, 0, 0) 5 0).1 (46, 0, 0)))) (45, 0, 0) (filR 0 0 9 ((uR (uI m (40, 0, 0) 5 0) (46, 0, 0) (filR 4 0 96 ((uI m (40, 0, 0) 5 0).1 (46, 0, 0)))).1 (45, 0, 0)))) (44, 0, 0) 0 60) (44, 0, 0) 1 40) (44, 0, 0) 2 1) (44, 0, 0) 3 60) (44, 0, 0) 4 0) (44, 0, 0) 5 40) (44, 0, 0) 6 10) (44, 0, 0) 7 3) (44, 0, 0) 8 0 = τ
  refine ⟨τ, ?_, ?_, ?_, ?_, ?_, ?_⟩
  · rw [F_X11_firstDraft, nam_i, show (0 : Int32) = nI 0 from rfl, m_fd46 _ 96 0 FU _ (by omega) (by unfold FU; omega), m_fd45 _ 9 0 FU _ (by omega) (by unfold FU; omega)]
    simp (disch := omega) only [inb_l, ck_i, nam_i]
    rw [← hτ]
    rfl
  · intro d h1 h2 h3 h4
    rw [← hτ]
    simp only [uI_ne h1, uR_ne h2, uR_ne h3, uI_ne h4]
  · rw [← hτ]
    simp (disch := omega) only [rd_t, rr_t, rd_e]
  · intro k hk
    rw [← hτ]
    have : k = 0 ∨ k = 1 ∨ k = 2 ∨ k = 3 ∨ k = 4 ∨ k = 5 ∨ k = 6 ∨ k = 7 ∨ k = 8 := by omega
    rcases this with rfl | rfl | rfl | rfl | rfl | rfl | rfl | rfl | rfl <;> (simp (disch := omega) only [rd_e, pk_un, pk_us]; rfl)
  · intro j hj
    rw [← hτ]
    simp (disch := omega) only [rd_t, rr_t, rr_e]
    exact fil_in (by omega) hj
  · intro k hk
    rw [← hτ]
    simp (disch := omega) only [rd_t, rr_e]
    exact fil_in (by omega) hk
def kdF (D : Nat → Int32) (i : Nat) (g : Nat → Int32) : Nat → Int32 := fun j => if i ≤ j ∧ j < 192 then (if j < 96 then D j else 0) else g j
theorem m_kd41 {m : St} {c1 : Int32} (kx : St → Option (Unit × St)) : ∀ (k i fu : Nat) (g : Nat → Int32), i + k = 192 → k < fu → L_X11_keepDraft_11 c1 fu (nI i) (pm m g) kx = kx (pm m (kdF (m.1 (46, 0, 0)) i g)) := by
  intro k
  induction k with
  | zero =>
    intro i fu g hk hf
    obtain ⟨f, rfl⟩ : ∃ f, fu = f + 1 := ⟨fu - 1, by omega⟩
    have e : i = 192 := by omega
    subst e
    have e2 : kdF (m.1 (46, 0, 0)) 192 g = g := by funext j; exact if_neg (by omega)
    rw [e2]
    simp (disch := omega) only [L_X11_keepDraft_11, i_lel, Nat.le_refl, ↓reduceIte]
  | succ k ih =>
    intro i fu g hk hf
    obtain ⟨f, rfl⟩ : ∃ f, fu = f + 1 := ⟨fu - 1, by omega⟩
    have z : ¬ 192 ≤ i := by omega
    have e : ∀ v, v = (if i < 96 then m.1 (46, 0, 0) i else 0) → kdF (m.1 (46, 0, 0)) (i + 1) (upd g i v) = kdF (m.1 (46, 0, 0)) i g := by
      intro v hv
      funext j
      unfold kdF
      by_cases q : j = i
      · subst q
        rw [if_neg (by omega), if_pos (by omega), pk_us, hv]
      · by_cases q2 : i ≤ j ∧ j < 192
        · rw [if_pos (by omega), if_pos q2]
        · rw [if_neg (by omega), if_neg q2, pk_un q]
    by_cases z2 : i < 96
    · have z3 : ¬ 96 ≤ i := by omega
      rw [← e _ (if_pos z2).symm, ← ih (i + 1) f _ (by omega) (by omega), L_X11_keepDraft_11.eq_2]
      simp (disch := omega) only [i_lel, z, z3, ↓reduceIte, nam_i, inb_i, ck_i, nI_clamp, pm_t, pm_u, i_al]
    · have z3 : 96 ≤ i := by omega
      rw [← e _ (if_neg z2).symm, ← ih (i + 1) f _ (by omega) (by omega), L_X11_keepDraft_11.eq_2]
      simp (disch := omega) only [i_lel, z, z3, ↓reduceIte, nam_i, inb_i, ck_i, nI_clamp, pm_u, i_al]
def kd9 (D : Nat → Int32) (i : Nat) (f : Nat → Int32) : Nat → Int32 := fun j => if i ≤ j ∧ j < 9 then D j else f j
theorem m_kd43 {m : St} (kx : St → Option (Unit × St)) : ∀ (k i fu : Nat) (f0 : Nat → Int32), i + k = 9 → k < fu → L_X11_keepDraft_57 fu (nI i) (uR m (43, 0, 0) f0) kx = kx (uR m (43, 0, 0) (kd9 (m.1 (44, 0, 0)) i f0)) := by
  intro k
  induction k with
  | zero =>
    intro i fu f0 hk hf
    obtain ⟨f, rfl⟩ : ∃ f, fu = f + 1 := ⟨fu - 1, by omega⟩
    have e : i = 9 := by omega
    subst e
    have e2 : kd9 (m.1 (44, 0, 0)) 9 f0 = f0 := by funext j; exact if_neg (by omega)
    rw [e2]
    simp (disch := omega) only [L_X11_keepDraft_57, i_lel, Nat.le_refl, ↓reduceIte]
  | succ k ih =>
    intro i fu f0 hk hf
    obtain ⟨f, rfl⟩ : ∃ f, fu = f + 1 := ⟨fu - 1, by omega⟩
    have z : ¬ 9 ≤ i := by omega
    have e : kd9 (m.1 (44, 0, 0)) (i + 1) (upd f0 i (m.1 (44, 0, 0) i)) = kd9 (m.1 (44, 0, 0)) i f0 := by
      funext j
      unfold kd9
      by_cases q : j = i
      · subst q
        rw [if_neg (by omega), if_pos (by omega), pk_us]
      · by_cases q2 : i ≤ j ∧ j < 9
        · rw [if_pos (by omega), if_pos q2]
        · rw [if_neg (by omega), if_neg q2, pk_un q]
    have e3 : uI (uR m (43, 0, 0) f0) (43, 0, 0) i (m.1 (44, 0, 0) i) = uR m (43, 0, 0) (upd f0 i (m.1 (44, 0, 0) i)) := by rw [uI_R, uR_R, uR_self]
    rw [← e, ← ih (i + 1) f _ (by omega) (by omega), L_X11_keepDraft_57.eq_2]
    simp (disch := omega) only [i_lel, z, ↓reduceIte, inb_i, ck_i, nI_clamp, rr_t, nam_i, e3, i_al]
theorem m_keepD (m : St) : F_X11_keepDraft m = some ((), uI (uI (uI (uR (pm m (upd (kdF (m.1 (46, 0, 0)) 0 (m.1 (41, 0, 0))) 175 (m.1 (41, 0, 0) 175))) (43, 0, 0) (kd9 (m.1 (44, 0, 0)) 0 (m.1 (43, 0, 0)))) (40, 0, 0) 23 0) (42, 0, 0) 0 0) (42, 0, 0) 1 0) := by
  have L := fun kx => m_kd41 (m := m) (c1 := m.1 (41, 0, 0) 175) kx 192 0 FU (m.1 (41, 0, 0)) (by omega) (by unfold FU; omega)
  rw [pm_self] at L
  have L2 := fun m' kx => m_kd43 (m := m') kx 9 0 FU (m'.1 (43, 0, 0)) (by omega) (by unfold FU; omega)
  rw [F_X11_keepDraft, inb_l (by omega) (by omega), ck_i, nam_i, show (0 : Int32) = nI 0 from rfl, L, ck_i, nam_i, pm_u]
  have L3 := L2 (pm m (upd (kdF (m.1 (46, 0, 0)) 0 (m.1 (41, 0, 0))) 175 (m.1 (41, 0, 0) 175)))
  rw [uR_id] at L3
  rw [L3, pm_t (by omega), pm_t (by omega)]
  simp (disch := omega) only [nam_i, inb_l, ck_i]
  rfl
/-! what a new text changes -/
theorem uR_sd {m : St} {d d' : Id3} {f f' : Nat → Int32} (h : d ≠ d') : uR (uR m d f) d' f' = uR (uR m d' f') d f := by
  refine Prod.ext ?_ rfl
  funext i l
  simp only [uR]
  by_cases h1 : i = d
  · subst h1
    simp [h]
  · simp [h1]
theorem Rel_E {x m : St} {v : Int32} (h : Rel x m) : Rel (uI (uI x (0, 0, 0) 1 0) (0, 0, 0) 2 v) (uI (uI m (40, 0, 0) 8 0) (40, 0, 0) 13 v) := by
  obtain ⟨h1, h2, h3, h4, h5, h6, h7, h8⟩ := id h
  refine ⟨⟨0, by omega, ?_, ?_, fun j hj => by omega⟩, ?_, ?_, ?_, ?_, ?_, ?_, ?_⟩
  · simp (disch := omega) only [rd_e, pk_un, pk_us]; rfl
  · simp (disch := omega) only [rd_e, pk_un, pk_us]; rfl
  · unfold RF
    simp only [rd_e, pk_us]
  · unfold RU at h3 ⊢
    simp (disch := omega) only [rd_t]
    exact h3
  · unfold RS at h4 ⊢
    simp (disch := omega) only [rd_t, fx_u]
    exact h4
  · intro i hi
    have hh := h5 i hi
    unfold RI1 at hh ⊢
    simp (disch := omega) only [rd_t, fx_u]
    exact hh
  · unfold RO at h6 ⊢
    simp (disch := omega) only [rd_t, rd_e, pk_un]
    exact h6
  · intro i hi
    have hh := h7 i hi
    unfold RH1 at hh ⊢
    simp (disch := omega) only [rd_t]
    exact hh
  · unfold RN at h8 ⊢
    simp (disch := omega) only [rd_e, pk_un]
    exact h8
theorem Rel_U {x m : St} {R : Nat → Int32} (h : Rel x m) (hR : RG R) : Rel (uR x (4, 0, 0) R) (uR m (43, 0, 0) R) := by
  obtain ⟨h1, h2, h3, h4, h5, h6, h7, h8⟩ := id h
  refine ⟨?_, ?_, ?_, ?_, ?_, ?_, ?_, ?_⟩
  · unfold RT at h1 ⊢
    simp (disch := omega) only [rr_t]
    exact h1
  · unfold RF at h2 ⊢
    simp (disch := omega) only [rr_t]
    exact h2
  · unfold RU
    rw [rr_e, rr_e]
    exact ⟨rfl, hR⟩
  · unfold RS at h4 ⊢
    simp (disch := omega) only [rr_t, fx_r]
    exact h4
  · intro i hi
    have hh := h5 i hi
    unfold RI1 at hh ⊢
    simp (disch := omega) only [rr_t, fx_r]
    exact hh
  · unfold RO at h6 ⊢
    simp (disch := omega) only [rr_t]
    exact h6
  · intro i hi
    have hh := h7 i hi
    unfold RH1 at hh ⊢
    simp (disch := omega) only [rr_t]
    exact hh
  · unfold RN at h8 ⊢
    simp (disch := omega) only [rr_t]
    exact h8
theorem Rel_O {x m : St} (h : Rel x m) : Rel (uI x (20, 0, 0) 4 0) (uI m (40, 0, 0) 23 0) := by
  obtain ⟨h1, h2, h3, h4, h5, h6, h7, h8⟩ := id h
  refine ⟨?_, ?_, ?_, ?_, ?_, ⟨0, by omega, ?_, ?_, fun j hj => by omega⟩, ?_, ?_⟩
  · unfold RT at h1 ⊢
    simp (disch := omega) only [rd_t, rd_e, pk_un]
    exact h1
  · unfold RF at h2 ⊢
    simp (disch := omega) only [rd_t, rd_e, pk_un]
    exact h2
  · unfold RU at h3 ⊢
    simp (disch := omega) only [rd_t]
    exact h3
  · unfold RS at h4 ⊢
    simp (disch := omega) only [rd_t, fx_u]
    exact h4
  · intro i hi
    have hh := h5 i hi
    unfold RI1 at hh ⊢
    simp (disch := omega) only [rd_t, fx_u]
    exact hh
  · rw [rd_e, pk_us]; rfl
  · rw [rd_e, pk_us]; rfl
  · intro i hi
    have hh := h7 i hi
    unfold RH1 at hh ⊢
    simp (disch := omega) only [rd_t]
    exact hh
  · unfold RN at h8 ⊢
    simp (disch := omega) only [rd_t, rd_e, pk_un]
    exact h8
theorem Rel_I {x m : St} (h : Rel x m) : Rel (uI (uI x (12, 0, 0) 1 0) (12, 1, 0) 1 0) (uI (uI m (42, 0, 0) 0 0) (42, 0, 0) 1 0) := by
  obtain ⟨h1, h2, h3, h4, h5, h6, h7, h8⟩ := id h
  refine ⟨?_, ?_, ?_, ?_, ?_, ?_, ?_, ?_⟩
  · unfold RT at h1 ⊢
    simp (disch := omega) only [rd_t]
    exact h1
  · unfold RF at h2 ⊢
    simp (disch := omega) only [rd_t]
    exact h2
  · unfold RU at h3 ⊢
    simp (disch := omega) only [rd_t]
    exact h3
  · unfold RS at h4 ⊢
    simp (disch := omega) only [rd_t, fx_u]
    exact h4
  · intro i hi
    left
    have : i = 0 ∨ i = 1 := by omega
    rcases this with rfl | rfl
    · refine ⟨?_, ?_⟩
      · rw [rd_q (by omega), rd_e, pk_us]
      · rw [rd_e, pk_un (by omega), rd_e, pk_us]
    · refine ⟨?_, ?_⟩
      · rw [rd_e, pk_us]
      · rw [rd_e, pk_us]
  · unfold RO at h6 ⊢
    simp (disch := omega) only [rd_t]
    exact h6
  · intro i hi
    have hh := h7 i hi
    unfold RH1 at hh ⊢
    simp (disch := omega) only [rd_t]
    exact hh
  · unfold RN at h8 ⊢
    simp (disch := omega) only [rd_t]
    exact h8
