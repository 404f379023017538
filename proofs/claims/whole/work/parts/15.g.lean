/-! filling a row; sheets -/
theorem uI_R {σ : St} {d : Id3} {k : Nat} {v : Int32} : uI σ d k v = uR σ d (upd (σ.1 d) k v) := by
  refine Prod.ext ?_ rfl
  funext d' k'
  simp only [uI, uR, upd]
  by_cases e : d' = d
  · subst e
    by_cases e2 : k' = k <;> simp [e2]
  · simp [e]
theorem uR_R {σ : St} {d : Id3} {f f' : Nat → Int32} : uR (uR σ d f) d f' = uR σ d f' := by
  refine Prod.ext ?_ rfl
  funext d' k'
  simp only [uR]
  by_cases e : d' = d <;> simp [e]
theorem uR_id {σ : St} {d : Id3} : uR σ d (σ.1 d) = σ := by
  refine Prod.ext ?_ rfl
  funext d' k'
  simp only [uR]
  by_cases e : d' = d
  · subst e; simp
  · simp [e]
def filR (v : Int32) (lo hi : Nat) (f : Nat → Int32) : Nat → Int32 := fun j => if lo ≤ j ∧ j < hi then v else f j
theorem fil_0 {v : Int32} {lo : Nat} {f : Nat → Int32} : filR v lo lo f = f := by
  funext j
  exact if_neg (by omega)
theorem fil_s {v : Int32} {lo hi : Nat} {f : Nat → Int32} (h : lo < hi) : filR v (lo + 1) hi (upd f lo v) = filR v lo hi f := by
  funext j
  unfold filR
  by_cases e : j = lo
  · subst e
    rw [if_neg (by omega), pk_us, if_pos (by omega)]
  · rw [pk_un e]
    by_cases e2 : lo ≤ j ∧ j < hi
    · rw [if_pos (by omega), if_pos e2]
    · rw [if_neg (by omega), if_neg e2]
theorem fil_in {v : Int32} {lo hi j : Nat} {f : Nat → Int32} (h : lo ≤ j) (h2 : j < hi) : filR v lo hi f j = v := if_pos ⟨h, h2⟩
theorem fil_out {v : Int32} {lo hi j : Nat} {f : Nat → Int32} (h : j < lo ∨ hi ≤ j) : filR v lo hi f j = f j := if_neg (by omega)
theorem x_fill27 {q : Nat} {v : Int32} : ∀ (k i fu : Nat) (τ : St), i + k = 40 → k < fu → L_J7_fill_53178_t27_5 q v 40 fu (nI i) τ = some ((), uR τ (27, q, 0) (filR v (i) (40) (τ.1 (27, q, 0)))) := by
  intro k
  induction k with
  | zero =>
    intro i fu τ hi hf
    obtain ⟨f, rfl⟩ : ∃ f, fu = f + 1 := ⟨fu - 1, by omega⟩
    have : i = 40 := by omega
    subst this
    rw [fil_0, uR_id]
    simp (disch := omega) only [L_J7_fill_53178_t27_5, i_lel, i_ler, i_le, Nat.le_refl, ↓reduceIte]
    try rfl
  | succ k ih =>
    intro i fu τ hi hf
    obtain ⟨f, rfl⟩ : ∃ f, fu = f + 1 := ⟨fu - 1, by omega⟩
    have h1 : ¬ 40 ≤ i := by omega
    have ih' := ih (i + 1) f (uI τ (27, q, 0) (i) v) (by omega) (by omega)
    rw [rd_e, uI_R, uR_R, ← uI_R] at ih'
    have e : filR v ((i + 1)) (40) (upd (τ.1 (27, q, 0)) (i) v) = filR v (i) (40) (τ.1 (27, q, 0)) := fil_s (lo := i) (by omega)
    rw [e] at ih'
    simp (disch := omega) only [L_J7_fill_53178_t27_5, i_lel, i_ler, i_le, h1, ↓reduceIte, i_lm, nI_add, inb_i, ck_i, nI_clamp, nam_i, i_al]
    exact ih'
theorem m_fill54 {q : Nat} (hq : q < 4) : ∀ (k i fu : Nat) (τ : St), i + k = 40 → k < fu → L_X11_sheet_40 (nI q) fu (nI i) τ = some ((1 : Int32), uR τ (54, 0, 0) (filR 0 (40 * q + i) (40 * q + 40) (τ.1 (54, 0, 0)))) := by
  intro k
  induction k with
  | zero =>
    intro i fu τ hi hf
    obtain ⟨f, rfl⟩ : ∃ f, fu = f + 1 := ⟨fu - 1, by omega⟩
    have : i = 40 := by omega
    subst this
    rw [fil_0, uR_id]
    simp (disch := omega) only [L_X11_sheet_40, i_lel, i_ler, i_le, Nat.le_refl, ↓reduceIte]
    try rfl
  | succ k ih =>
    intro i fu τ hi hf
    obtain ⟨f, rfl⟩ : ∃ f, fu = f + 1 := ⟨fu - 1, by omega⟩
    have h1 : ¬ 40 ≤ i := by omega
    have ih' := ih (i + 1) f (uI τ (54, 0, 0) (40 * q + i) 0) (by omega) (by omega)
    rw [rd_e, uI_R, uR_R, ← uI_R] at ih'
    have e : filR 0 (40 * q + (i + 1)) (40 * q + 40) (upd (τ.1 (54, 0, 0)) (40 * q + i) 0) = filR 0 (40 * q + i) (40 * q + 40) (τ.1 (54, 0, 0)) := fil_s (lo := 40 * q + i) (by omega)
    rw [e] at ih'
    simp (disch := omega) only [L_X11_sheet_40, i_lel, i_ler, i_le, h1, ↓reduceIte, i_lm, nI_add, inb_i, ck_i, nI_clamp, nam_i, i_al]
    exact ih'
theorem x_fill5 {v : Int32} : ∀ (k i fu : Nat) (τ : St), i + k = 96 → k < fu → L_J7_fill_53178_t5_5 v 96 fu (nI i) τ = some ((), uR τ (5, 0, 0) (filR v (i) (96) (τ.1 (5, 0, 0)))) := by
  intro k
  induction k with
  | zero =>
    intro i fu τ hi hf
    obtain ⟨f, rfl⟩ : ∃ f, fu = f + 1 := ⟨fu - 1, by omega⟩
    have : i = 96 := by omega
    subst this
    rw [fil_0, uR_id]
    simp (disch := omega) only [L_J7_fill_53178_t5_5, i_lel, i_ler, i_le, Nat.le_refl, ↓reduceIte]
    try rfl
  | succ k ih =>
    intro i fu τ hi hf
    obtain ⟨f, rfl⟩ : ∃ f, fu = f + 1 := ⟨fu - 1, by omega⟩
    have h1 : ¬ 96 ≤ i := by omega
    have ih' := ih (i + 1) f (uI τ (5, 0, 0) (i) v) (by omega) (by omega)
    rw [rd_e, uI_R, uR_R, ← uI_R] at ih'
    have e : filR v ((i + 1)) (96) (upd (τ.1 (5, 0, 0)) (i) v) = filR v (i) (96) (τ.1 (5, 0, 0)) := fil_s (lo := i) (by omega)
    rw [e] at ih'
    simp (disch := omega) only [L_J7_fill_53178_t5_5, i_lel, i_ler, i_le, h1, ↓reduceIte, i_lm, nI_add, inb_i, ck_i, nI_clamp, nam_i, i_al]
    exact ih'
theorem x_fill14 {v : Int32} : ∀ (k i fu : Nat) (τ : St), i + k = 96 → k < fu → L_J7_fill_53178_t14_5 v 96 fu (nI i) τ = some ((), uR τ (14, 0, 0) (filR v (i) (96) (τ.1 (14, 0, 0)))) := by
  intro k
  induction k with
  | zero =>
    intro i fu τ hi hf
    obtain ⟨f, rfl⟩ : ∃ f, fu = f + 1 := ⟨fu - 1, by omega⟩
    have : i = 96 := by omega
    subst this
    rw [fil_0, uR_id]
    simp (disch := omega) only [L_J7_fill_53178_t14_5, i_lel, i_ler, i_le, Nat.le_refl, ↓reduceIte]
    try rfl
  | succ k ih =>
    intro i fu τ hi hf
    obtain ⟨f, rfl⟩ : ∃ f, fu = f + 1 := ⟨fu - 1, by omega⟩
    have h1 : ¬ 96 ≤ i := by omega
    have ih' := ih (i + 1) f (uI τ (14, 0, 0) (i) v) (by omega) (by omega)
    rw [rd_e, uI_R, uR_R, ← uI_R] at ih'
    have e : filR v ((i + 1)) (96) (upd (τ.1 (14, 0, 0)) (i) v) = filR v (i) (96) (τ.1 (14, 0, 0)) := fil_s (lo := i) (by omega)
    rw [e] at ih'
    simp (disch := omega) only [L_J7_fill_53178_t14_5, i_lel, i_ler, i_le, h1, ↓reduceIte, i_lm, nI_add, inb_i, ck_i, nI_clamp, nam_i, i_al]
    exact ih'
theorem x_fill17 {v : Int32} : ∀ (k i fu : Nat) (τ : St), i + k = 384 → k < fu → L_J7_fill_53178_t17_5 v 384 fu (nI i) τ = some ((), uR τ (17, 0, 0) (filR v (i) (384) (τ.1 (17, 0, 0)))) := by
  intro k
  induction k with
  | zero =>
    intro i fu τ hi hf
    obtain ⟨f, rfl⟩ : ∃ f, fu = f + 1 := ⟨fu - 1, by omega⟩
    have : i = 384 := by omega
    subst this
    rw [fil_0, uR_id]
    simp (disch := omega) only [L_J7_fill_53178_t17_5, i_lel, i_ler, i_le, Nat.le_refl, ↓reduceIte]
    try rfl
  | succ k ih =>
    intro i fu τ hi hf
    obtain ⟨f, rfl⟩ : ∃ f, fu = f + 1 := ⟨fu - 1, by omega⟩
    have h1 : ¬ 384 ≤ i := by omega
    have ih' := ih (i + 1) f (uI τ (17, 0, 0) (i) v) (by omega) (by omega)
    rw [rd_e, uI_R, uR_R, ← uI_R] at ih'
    have e : filR v ((i + 1)) (384) (upd (τ.1 (17, 0, 0)) (i) v) = filR v (i) (384) (τ.1 (17, 0, 0)) := fil_s (lo := i) (by omega)
    rw [e] at ih'
    simp (disch := omega) only [L_J7_fill_53178_t17_5, i_lel, i_ler, i_le, h1, ↓reduceIte, i_lm, nI_add, inb_i, ck_i, nI_clamp, nam_i, i_al]
    exact ih'
theorem x_shett {k : Nat} (h : k < 4) (σ : St) : F_X10_isSheet (nI k) σ = some (1, σ) := by
  rw [F_X10_isSheet, x_wt (by omega) (by omega) (by omega), bd_i]; rfl
theorem x_shetf {a : Int32} (h : ¬ IV 0 3 a) (σ : St) : F_X10_isSheet a σ = some (0, σ) := by
  rw [F_X10_isSheet, x_wf h (by omega) (by omega), bd_i]; rfl
theorem x_lanet {k : Nat} (h : k < 3) (σ : St) : F_X10_isLane (nI k) σ = some (1, σ) := by
  rw [F_X10_isLane, x_wt (by omega) (by omega) (by omega), bd_i]; rfl
theorem x_lanef {a : Int32} (h : ¬ IV 0 2 a) (σ : St) : F_X10_isLane a σ = some (0, σ) := by
  rw [F_X10_isLane, x_wf h (by omega) (by omega), bd_i]; rfl
theorem m_shett {k l : Nat} (h : k < 4) (h2 : l < 3) (σ : St) : F_X11_isSheet (nI k) (nI l) σ = some (1, σ) := by
  rw [F_X11_isSheet, m_wt (by omega) (by omega) (by omega), bd_i, if_neg (by decide), m_wt (by omega) (by omega) (by omega), bd_i, if_neg (by decide)]
theorem m_shetf {a b : Int32} (h : ¬ (IV 0 3 a ∧ IV 0 2 b)) (σ : St) : F_X11_isSheet a b σ = some (0, σ) := by
  by_cases h1 : IV 0 3 a
  · obtain ⟨k, k1, k2, rfl⟩ := id h1
    rw [F_X11_isSheet, m_wt (by omega) (by omega) (by omega), bd_i, if_neg (by decide), m_wf (fun z => h ⟨h1, z⟩) (by omega) (by omega), bd_i, if_pos rfl]
  · rw [F_X11_isSheet, m_wf h1 (by omega) (by omega), bd_i, if_pos rfl]
theorem s_sheet (a b c : Int32) : Sim (F_X10_sheet a b c) (F_X11_sheet a b c) := by
  intro x m h
  obtain ⟨h1, h2, h3, h4, h5, h6, h7, h8⟩ := id h
  by_cases ha : IV 0 3 a
  · by_cases hb : IV 0 2 b
    · obtain ⟨q, q1, q2, rfl⟩ := id ha
      obtain ⟨l, l1, l2, rfl⟩ := id hb
      have q4 : q < 4 := by omega
      by_cases hc : c ≤ 40
      · by_cases hc0 : 0 ≤ c
        · obtain ⟨n, n1, n2, rfl⟩ : IV 0 40 c := by
            refine IV_of (by omega) (by omega) ?_ ?_
            · show ¬ c < (0 : Int32)
              rw [Int32.lt_iff_toInt_lt]; rw [Int32.le_iff_toInt_le] at hc0; omega
            · show ¬ (40 : Int32) < c
              rw [Int32.lt_iff_toInt_lt]; rw [Int32.le_iff_toInt_le] at hc; omega
          refine ⟨1, uI (uI (uR x (27, q, 0) (filR 0 0 40 (x.1 (27, q, 0)))) (26, q, 0) 1 (nI l)) (26, q, 0) 2 (nI n), uR (uI (uI m (52, 0, 0) q (nI l)) (53, 0, 0) q (nI n)) (54, 0, 0) (filR 0 (40 * q + 0) (40 * q + 40) (m.1 (54, 0, 0))), ?_, ?_, ⟨?_, ?_, ?_, ?_, ?_, ?_, ?_, ?_⟩, FrX_u (by omega) (FrX_u (by omega) (FrX_R (by omega) FrX_rfl)), FrM_R (by omega) (FrM_u (by omega) (FrM_u (by omega) FrM_rfl))⟩
          · rw [F_X10_sheet, x_shett q4, bd_i, if_neg (by decide), x_lanet (by omega), bd_i, if_neg (by decide), if_pos hc, if_pos hc0, inb_i (by omega) (by omega), ck_i, nI_clamp (by omega), F_X7_becomeNew]
            have e : F_J7_fill_53178_t27 q 0 x = some ((), uR x (27, q, 0) (filR 0 0 40 (x.1 (27, q, 0)))) := x_fill27 40 0 FU x (by omega) (by unfold FU; omega)
            rw [e]
            simp only [bd_i, nam_i]
          · rw [F_X11_sheet, m_shett q4 (by omega), bd_i, if_neg (by decide), if_pos hc, if_pos hc0]
            simp (disch := omega) only [inb_i, ck_i, nI_clamp, nam_i]
            refine (m_fill54 q4 40 0 FU _ (by omega) (by unfold FU; omega)).trans ?_
            simp (disch := omega) only [rd_t]
          · unfold RT at h1 ⊢
            (try simp (disch := omega) only [rd_t, rd_q, rd_j, rd_e, rr_t, rr_q, rr_e, pk_un, pk_us, fx_u, fx_r])
            exact h1
          · unfold RF at h2 ⊢
            (try simp (disch := omega) only [rd_t, rd_q, rd_j, rd_e, rr_t, rr_q, rr_e, pk_un, pk_us, fx_u, fx_r])
            exact h2
          · unfold RU at h3 ⊢
            (try simp (disch := omega) only [rd_t, rd_q, rd_j, rd_e, rr_t, rr_q, rr_e, pk_un, pk_us, fx_u, fx_r])
            exact h3
          · unfold RS at h4 ⊢
            (try simp (disch := omega) only [rd_t, rd_q, rd_j, rd_e, rr_t, rr_q, rr_e, pk_un, pk_us, fx_u, fx_r])
            exact h4
          · intro i hi
            have hh := h5 i hi
            unfold RI1 at hh ⊢
            (try simp (disch := omega) only [rd_t, rd_q, rd_j, rd_e, rr_t, rr_q, rr_e, pk_un, pk_us, fx_u, fx_r])
            exact hh
          · unfold RO at h6 ⊢
            (try simp (disch := omega) only [rd_t, rd_q, rd_j, rd_e, rr_t, rr_q, rr_e, pk_un, pk_us, fx_u, fx_r])
            exact h6
          · intro i hi
            by_cases hiq : i = q
            · subst hiq
              refine ⟨n, n2, ?_, ?_, Or.inr ⟨l, by omega, ?_, ?_⟩, fun j hj => ?_⟩
              · simp (disch := omega) only [rd_e, pk_us]
              · simp (disch := omega) only [rr_t, rd_e, pk_us]
              · simp (disch := omega) only [rd_e, pk_us, pk_un]
              · simp (disch := omega) only [rr_t, rd_t, rd_e, pk_us]
              · simp (disch := omega) only [rr_e, rd_t, fil_in]
            · obtain ⟨n', a1, a2, a3, a4, a5⟩ := h7 i hi
              refine ⟨n', a1, ?_, ?_, ?_, fun j hj => ?_⟩
              · simp (disch := omega) only [rd_q, rr_t]; exact a2
              · simp (disch := omega) only [rr_t, rd_e, pk_un, rd_t]; exact a3
              · simp (disch := omega) only [rr_t, rd_t, rd_e, pk_un, rd_q]; exact a4
              · simp (disch := omega) only [rr_e, rd_t, rr_q, fil_out]; exact a5 j hj
          · unfold RN at h8 ⊢
            (try simp (disch := omega) only [rd_t, rd_q, rd_j, rd_e, rr_t, rr_q, rr_e, pk_un, pk_us, fx_u, fx_r])
            exact h8
        · refine Sim_same (r := -14) h ?_ ?_
          · rw [F_X10_sheet, x_shett q4, bd_i, if_neg (by decide), x_lanet (by omega), bd_i, if_neg (by decide), if_pos hc, if_neg hc0]
          · rw [F_X11_sheet, m_shett q4 (by omega), bd_i, if_neg (by decide), if_pos hc, if_neg hc0]
      · refine Sim_same (r := -1) h ?_ ?_
        · rw [F_X10_sheet, x_shett q4, bd_i, if_neg (by decide), x_lanet (by omega), bd_i, if_neg (by decide), if_neg hc]
        · rw [F_X11_sheet, m_shett q4 (by omega), bd_i, if_neg (by decide), if_neg hc]
    · refine Sim_same (r := -1) h ?_ ?_
      · obtain ⟨q, q1, q2, rfl⟩ := id ha
        rw [F_X10_sheet, x_shett (by omega), bd_i, if_neg (by decide), x_lanef hb, bd_i, if_pos rfl]
      · rw [F_X11_sheet, m_shetf (fun z => hb z.2), bd_i, if_pos rfl]
  · refine Sim_same (r := -1) h ?_ ?_
    · rw [F_X10_sheet, x_shetf ha, bd_i, if_pos rfl]
    · rw [F_X11_sheet, m_shetf (fun z => ha z.1), bd_i, if_pos rfl]
