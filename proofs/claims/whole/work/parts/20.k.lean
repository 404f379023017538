/-! text -/
theorem x_bg6 : ∀ (k i fu : Nat) (τ : St), i + k = 9 → k < fu → L_X8_beginAnew_53 fu (nI i) τ = some ((), uR τ (6, 0, 0) (filR 0 i 9 (τ.1 (6, 0, 0)))) := by
  intro k
  induction k with
  | zero =>
    intro i fu τ hk hf
    obtain ⟨f, rfl⟩ : ∃ f, fu = f + 1 := ⟨fu - 1, by omega⟩
    have e : i = 9 := by omega
    subst e
    rw [fil_0, uR_id]
    simp (disch := omega) only [L_X8_beginAnew_53, i_lel, Nat.le_refl, ↓reduceIte]
  | succ k ih =>
    intro i fu τ hk hf
    obtain ⟨f, rfl⟩ : ∃ f, fu = f + 1 := ⟨fu - 1, by omega⟩
    have z : ¬ 9 ≤ i := by omega
    have := ih (i + 1) f (uI τ (6, 0, 0) i 0) (by omega) (by omega)
    rw [uI_R, uR_R, uR_self, fil_s (by omega)] at this
    rw [← this, ← uI_R, L_X8_beginAnew_53.eq_2]
    simp (disch := omega) only [i_lel, z, ↓reduceIte, inb_i, ck_i, nI_clamp, nam_i, i_al, nar0]
theorem x_bgAnew {x : St} {n : Nat} (hn : n ≤ 320) : ∃ σ, F_X8_beginAnew (nI n) x = some ((), σ) ∧ XS x σ n 0 0 0 dft (fun _ => 4) (fun _ => 0) := by
  have c0 : (0 : Int32).toNatClampNeg = 0 := by decide
  have c9 : (9 : Int32).toNatClampNeg = 9 := by decide
  have ec : cpk (0 : Int32) (0 : Int32) (9 : Int32) 9 9 = true := by decide
  have e4 : (if (320 : Int32) < nI n then (320 : Int32) else nI n) = nI n := by
    rw [if_neg (by rw [i_ltl (by decide) (by omega)]; omega)]
  have eF : ∀ τ : St, F_J7_fill_53178_t5 4 τ = some ((), uR τ (5, 0, 0) (filR 4 0 96 (τ.1 (5, 0, 0)))) := fun τ => x_fill5 96 0 FU τ (by omega) (by unfold FU; omega)
  have e6 : ∀ τ : St, L_X8_beginAnew_53 FU 0 τ = some ((), uR τ (6, 0, 0) (filR 0 0 9 (τ.1 (6, 0, 0)))) := fun τ => x_bg6 9 0 FU τ (by omega) (by unfold FU; omega)
  have n4 : nX 4 1 := Or.inr (Or.inl ⟨rfl, rfl⟩)
  have n5 : nX 5 0 := Or.inr (Or.inr (Or.inl ⟨by omega, by omega⟩))
  have n6 : nX 6 0 := Or.inr (Or.inr (Or.inl ⟨by omega, by omega⟩))
  refine ⟨uR (uR (uR (uI (uI (uI (uI (uI (uI x (2, 0, 0) 4 (nI n)) (2, 0, 0) 5 0) (2, 0, 0) 6 0) (2, 0, 0) 9 0) (2, 0, 0) 10 0) (2, 0, 0) 11 0) (4, 1, 0) (va_cpy (roC 102) ((uI (uI (uI (uI (uI (uI x (2, 0, 0) 4 (nI n)) (2, 0, 0) 5 0) (2, 0, 0) 6 0) (2, 0, 0) 9 0) (2, 0, 0) 10 0) (2, 0, 0) 11 0).1 (4, 1, 0)) 0 0 9)) (5, 0, 0) (filR 4 0 96 ((uR (uI (uI (uI (uI (uI (uI x (2, 0, 0) 4 (nI n)) (2, 0, 0) 5 0) (2, 0, 0) 6 0) (2, 0, 0) 9 0) (2, 0, 0) 10 0) (2, 0, 0) 11 0) (4, 1, 0) (va_cpy (roC 102) ((uI (uI (uI (uI (uI (uI x (2, 0, 0) 4 (nI n)) (2, 0, 0) 5 0) (2, 0, 0) 6 0) (2, 0, 0) 9 0) (2, 0, 0) 10 0) (2, 0, 0) 11 0).1 (4, 1, 0)) 0 0 9)).1 (5, 0, 0)))) (6, 0, 0) (filR 0 0 9 ((uR (uR (uI (uI (uI (uI (uI (uI x (2, 0, 0) 4 (nI n)) (2, 0, 0) 5 0) (2, 0, 0) 6 0) (2, 0, 0) 9 0) (2, 0, 0) 10 0) (2, 0, 0) 11 0) (4, 1, 0) (va_cpy (roC 102) ((uI (uI (uI (uI (uI (uI x (2, 0, 0) 4 (nI n)) (2, 0, 0) 5 0) (2, 0, 0) 6 0) (2, 0, 0) 9 0) (2, 0, 0) 10 0) (2, 0, 0) 11 0).1 (4, 1, 0)) 0 0 9)) (5, 0, 0) (filR 4 0 96 ((uR (uI (uI (uI (uI (uI (uI x (2, 0, 0) 4 (nI n)) (2, 0, 0) 5 0) (2, 0, 0) 6 0) (2, 0, 0) 9 0) (2, 0, 0) 10 0) (2, 0, 0) 11 0) (4, 1, 0) (va_cpy (roC 102) ((uI (uI (uI (uI (uI (uI x (2, 0, 0) 4 (nI n)) (2, 0, 0) 5 0) (2, 0, 0) 6 0) (2, 0, 0) 9 0) (2, 0, 0) 10 0) (2, 0, 0) 11 0).1 (4, 1, 0)) 0 0 9)).1 (5, 0, 0)))).1 (6, 0, 0))), ?_, ?_⟩
  · rw [F_X8_beginAnew, e4]
    simp only [nam_i, F_X5_beginAnew, ec, ck_i, c0, c9, bd_i, eF, e6]
  · refine ⟨KX_R n6 (KX_R n5 (KX_R n4 (K_2 (K_2 (K_2 (K_2 (K_2 (K_2 KX_rfl)))))))), ?_, ?_, ?_, ?_, ?_, ?_, ?_, ?_⟩
    · simp (disch := omega) only [rr_t, rd_e, pk_un, pk_us]
    · simp (disch := omega) only [rr_t, rd_e, pk_un, pk_us]; rfl
    · simp (disch := omega) only [rr_t, rd_e, pk_un, pk_us]; rfl
    · simp (disch := omega) only [rr_t, rd_e, pk_un, pk_us]; rfl
    · simp (disch := omega) only [rr_t, rd_e, pk_un, pk_us]
    · intro k hk
      simp (disch := omega) only [rr_t, rr_e]
      exact sb_cpy0 hk
    · intro j hj
      simp (disch := omega) only [rr_t, rr_e]
      exact fil_in (by omega) hj
    · intro k hk
      simp (disch := omega) only [rr_e]
      exact fil_in (by omega) hk
theorem RG_dft : RG dft := ⟨⟨60, by omega, by omega, rfl⟩, ⟨40, by omega, by omega, rfl⟩, ⟨1, 60, by omega, by omega, by omega, rfl, rfl⟩, ⟨0, by omega, by omega, rfl⟩, ⟨40, by omega, by omega, rfl⟩, ⟨10, by omega, by omega, rfl⟩, ⟨3, by omega, by omega, rfl⟩, ⟨0, by omega, by omega, rfl⟩⟩
theorem Rel_KK {x m σ τ : St} {v : Int32} (h : Rel x m) (hX : KX x σ) (hM : KMf m τ) (hv : τ.1 (40, 0, 0) 13 = v) : Rel (uI (uI σ (0, 0, 0) 1 0) (0, 0, 0) 2 v) (uI τ (40, 0, 0) 8 0) := by
  have h1 : Rel σ (uI τ (40, 0, 0) 13 (m.1 (40, 0, 0) 13)) := by
    refine Rel_cong (fun d hd => hX d (Or.inl hd)) (fun d k hd => ?_) h
    by_cases e : d = (40, 0, 0) ∧ k = 13
    · obtain ⟨rfl, rfl⟩ := e
      rw [rd_e, pk_us]
    · rw [← hM d k (Or.inl ⟨hd, e⟩)]
      by_cases e2 : d = (40, 0, 0)
      · subst e2
        rw [rd_e, pk_un (fun q => e ⟨rfl, q⟩)]
      · rw [uI_ne e2]
  have h2 := Rel_E (v := v) h1
  have e : uI (uI (uI τ (40, 0, 0) 13 (m.1 (40, 0, 0) 13)) (40, 0, 0) 8 0) (40, 0, 0) 13 v = uI τ (40, 0, 0) 8 0 := by
    rw [uI_sw (k := 8) (j := 13) (by omega), uI_uI, ← hv, uI_id]
  rw [e] at h2
  exact h2
theorem Fr_X {x σ : St} {v : Int32} (hX : KX x σ) : FrX x (uI (uI σ (0, 0, 0) 1 0) (0, 0, 0) 2 v) := FrX_u (by omega) (FrX_u (by omega) (fun d hd => hX d (Or.inr hd)))
theorem Fr_M {m τ : St} (hM : KMf m τ) : FrM m τ := fun d hd => by funext k; exact hM d k (Or.inr hd)
/-- a text refused on both sides -/
theorem S_ref {x m σ τ : St} {ft pl : Nat} (h : Rel x m) (hF : FX x σ ft pl) (hFM : FM τ ft pl) (hK : KMf m τ) (eX : F_X8_readAll (x.1 (0, 0, 0) 1) x = some ((), σ)) (eM : F_X11_text m = some ((-10 : Int32) - nI pl, uI τ (40, 0, 0) 8 0)) : ∃ r x' m', F_X10_text x = some (r, x') ∧ F_X11_text m = some (r, m') ∧ Rel x' m' ∧ FrX x x' ∧ FrM m m' := by
  obtain ⟨k1, k2, k3, k4, k5, k6⟩ := hF
  have n0 : ¬ nI ft = 0 := nI_ne0 k4 (by omega)
  refine ⟨-10 - nI pl, uI (uI σ (0, 0, 0) 1 0) (0, 0, 0) 2 (nI ft), uI τ (40, 0, 0) 8 0, ?_, eM, Rel_KK h k1 hK hFM.1, Fr_X k1, FrM_u (by omega) (Fr_M hK)⟩
  have q10 : (uI σ (0, 0, 0) 1 0).1 (2, 0, 0) 10 = nI ft := by rw [rd_t (by omega)]; exact k2
  have q3 : (uI (uI σ (0, 0, 0) 1 0) (0, 0, 0) 2 (nI ft)).1 (0, 0, 0) 2 = nI ft := by rw [rd_e, pk_us]
  have q11 : (uI (uI σ (0, 0, 0) 1 0) (0, 0, 0) 2 (nI ft)).1 (2, 0, 0) 11 = nI pl := by simp (disch := omega) only [rd_t]; exact k3
  rw [F_X10_text, eX, bd_i, nam_i, nam_i, q10, q3, if_neg n0, q11]
theorem x_nosh {y : St} {ce : Nat → Int32} (hce : ∀ j, j < 96 → y.1 (5, 0, 0) j = ce j) : ∃ g, F_X6_beginAnew_t5 0 y = some ((), px 0 y g) ∧ (∀ j, j < 96 → g j = ce j) ∧ g 168 = 0 ∧ g 169 = 0 ∧ g 170 = 0 ∧ g 171 = 0 ∧ g 172 = 0 ∧ g 173 = 0 ∧ g 174 = 0 ∧ g 175 = fx 0 y 175 ∧ g 176 = 0 := by
  have c0 : (0 : Int32).toNatClampNeg = 0 := by decide
  have c96 : (if (96 : Int32) < (96 : Int32) then (96 : Int32) else (96 : Int32)) = 96 := by decide
  have c96' : (96 : Int32).toNatClampNeg = 96 := by decide
  have ec : cpk (0 : Int32) (0 : Int32) (96 : Int32) 96 96 = true := by decide
  have hcells : uR y (8, 0, 0) (va_cpy (y.1 (5, 0, 0)) (y.1 (8, 0, 0)) 0 0 96) = px 0 y (fun j => if j < 96 then va_cpy (y.1 (5, 0, 0)) (y.1 (8, 0, 0)) 0 0 96 j else fx 0 y j) := by
    have := px_cells (q := 0) (x := y) (g := fx 0 y) (F := va_cpy (y.1 (5, 0, 0)) (y.1 (8, 0, 0)) 0 0 96) (fun k hk => pk_cpy_out (Or.inr (by omega)))
    rw [px_fx] at this
    exact this
  refine ⟨clG (upd (upd (fun j => if j < 96 then va_cpy (y.1 (5, 0, 0)) (y.1 (8, 0, 0)) 0 0 96 j else fx 0 y j) 169 0) 170 0), ?_, ?_, ?_, ?_, ?_, ?_, ?_, ?_, ?_, ?_, ?_⟩
  · rw [F_X6_beginAnew_t5, c96, ec, ck_i, nam_i, c0, c96', hcells]
    simp only [nam_i, pu_s3, pu_s6, x_clear, bd_i]
  · intro j hj
    unfold clG
    simp (disch := omega) only [pk_un]
    rw [if_pos hj, sb_cpy0 hj, hce j hj]
  all_goals (unfold clG; simp (disch := omega) only [pk_un, pk_us])
  rw [if_neg (by omega)]
theorem x_img {σ : St} : L_X10_text_83 FU 0 σ = some (σ.1 (2, 0, 0) 9, uI (uI σ (12, 0, 0) 1 0) (12, 1, 0) 1 0) := by
  have t0 : ¬ (2 : Int32) ≤ 0 := by decide
  have t1 : ¬ (2 : Int32) ≤ 1 := by decide
  have t2 : (2 : Int32) ≤ 2 := by decide
  have a0 : (0 : Int32) + 1 = 1 := by decide
  have a1 : (1 : Int32) + 1 = 2 := by decide
  have i0 : inb (0 : Int32) 2 = true := by decide
  have i1 : inb (1 : Int32) 2 = true := by decide
  have c0 : (0 : Int32).toNatClampNeg = 0 := by decide
  have c1 : (1 : Int32).toNatClampNeg = 1 := by decide
  rw [show FU = 997 + 1 + 1 + 1 from rfl, L_X10_text_83.eq_2, if_neg t0, i0, ck_i, nam_i, nam_i, a0, c0, L_X10_text_83.eq_2, if_neg t1, i1, ck_i, nam_i, nam_i, a1, c1, L_X10_text_83.eq_2, if_pos t2]
  simp (disch := omega) only [rd_t]
