/-! text, both sides -/
theorem m_textB {m : St} {n : Nat} {B : Nat → Nat} (hT : TMb n B m) : ∃ τ, (∀ km, (F_X11_text m = L_X11_text_20  FU (0 : Int32) τ km ↔ F_X11_text m = L_X11_text_20  FU (0 : Int32) τ km)) ∧ (bd (F_X11_firstDraft (uI (uI m (40, 0, 0) 13 0) (40, 0, 0) 9 0)) fun _ σ3 => F_X11_next σ3) = some ((), τ) ∧ MS m τ 0 dft (fun _ => 4) (fun _ => 0) ∧ NMf n B τ 0 := by
  obtain ⟨τ1, e1, e2, e3, e4, e5, e6⟩ := m_first (uI (uI m (40, 0, 0) 13 0) (40, 0, 0) 9 0)
  have hK1 : KMf m τ1 := by
    intro d k hd
    by_cases q : d = (40, 0, 0)
    · subst q
      rw [e3, rd_e, rd_e]
      rcases hd with ⟨q, q2⟩ | q
      · rcases q with ⟨_, q⟩ | q | q | q | q | q
        · have : k ≠ 5 ∧ k ≠ 9 ∧ k ≠ 13 := by
            rcases q with q | q | q | q
            · omega
            · exact absurd ⟨rfl, q⟩ q2
            · omega
            · omega
          rw [pk_un this.1, pk_un this.2.1, pk_un this.2.2]
        · have := (Prod.mk.inj q).1; omega
        · have := (Prod.mk.inj q).1; omega
        · have := (Prod.mk.inj q).1; omega
        · have := (Prod.mk.inj q).1; omega
        · have q' : 51 ≤ 40 ∧ 40 ≤ 54 := q; omega
      · have q' : 40 < 40 := q; omega
    · have hne : d ≠ (44, 0, 0) ∧ d ≠ (45, 0, 0) ∧ d ≠ (46, 0, 0) := by
        refine ⟨?_, ?_, ?_⟩ <;> rintro rfl
        all_goals
          rcases hd with ⟨w, w2⟩ | w
          · rcases w with ⟨w, _⟩ | w | w | w | w | w
            · have := (Prod.mk.inj w).1; omega
            · have := (Prod.mk.inj w).1; omega
            · have := (Prod.mk.inj w).1; omega
            · have := (Prod.mk.inj w).1; omega
            · have := (Prod.mk.inj w).1; omega
            · simp at w
          · simp at w
      rw [e2 d hne.1 hne.2.1 hne.2.2 q, uI_ne q, uI_ne q]
  have hM1 : MS m τ1 0 dft (fun _ => 4) (fun _ => 0) := ⟨hK1, by rw [e3, pk_us]; rfl, e4, e5, e6⟩
  obtain ⟨τ, f1, f2, f3⟩ := m_tok (p := 0) (Nat.zero_le n) (TM_K hT hK1) (by rw [e3, pk_un (by omega), rd_e, pk_us]; rfl) (by rw [e3, pk_un (by omega), rd_e, pk_un (by omega), rd_e, pk_us])
  refine ⟨τ, fun km => Iff.rfl, ?_, MS_N hM1 f2, f3⟩
  rw [e1, bd_i, f1]
theorem s_text : Sim F_X10_text F_X11_text := by
  intro x m h
  obtain ⟨n, hn, hx1, hm8, hby⟩ := h.1
  have hB : ∃ B : Nat → Nat, ∀ j, j < n → B j < 256 ∧ x.1 (1, 0, 0) j &&& 255 = nI (B j) ∧ m.1 (47, 0, 0) j = nI (B j) := by
    refine ⟨fun j => (m.1 (47, 0, 0) j).toNatClampNeg, fun j hj => ?_⟩
    obtain ⟨b, b1, b2, b3⟩ := hby j hj
    show (m.1 (47, 0, 0) j).toNatClampNeg < 256 ∧ x.1 (1, 0, 0) j &&& 255 = nI ((m.1 (47, 0, 0) j).toNatClampNeg) ∧ m.1 (47, 0, 0) j = nI ((m.1 (47, 0, 0) j).toNatClampNeg)
    rw [b3, nI_clamp (by omega)]
    exact ⟨b1, b2, rfl⟩
  obtain ⟨B, hB⟩ := hB
  have hT : TXb n B x := ⟨hn, fun j hj => ⟨(hB j hj).1, (hB j hj).2.1⟩⟩
  have hTm : TMb n B m := ⟨hn, hm8, fun j hj => ⟨(hB j hj).1, (hB j hj).2.2⟩⟩
  obtain ⟨σ0, eb, hX0⟩ := x_bgAnew (x := x) hn
  obtain ⟨τ0, _, et, hM0, hN0⟩ := m_textB hTm
  have eM0 : F_X11_text m = L_X11_text_20  FU (nI 0) τ0 (fun (y13 : Int32) (σ12 : St) => ck (inb (1 : Int32) 9) (ck (inb (0 : Int32) 9) (nam (fun (y16 : Int32) (σ18 : St) => bd (F_X11_needs y16 (6 : Int32) σ18) fun _ σ19 => nam (uI σ19 (40, 0, 0) 8 (0 : Int32)) fun σ21 => (if (σ21.1 (40, 0, 0) 13) ≤ 0 then bd (F_X11_keepDraft  σ21) fun _ σ22 => some (y13, σ22) else some ((-10 : Int32) - (σ21.1 (40, 0, 0) 14), σ21))) fun k17 => (if (σ12.1 (44, 0, 0) 0) < (σ12.1 (44, 0, 0) 1) then k17 (0 : Int32) σ12 else k17 (1 : Int32) σ12)))) := by
    rw [F_X11_text, nam_i, nam_i]
    obtain ⟨τ1, g1, g2⟩ : ∃ τ1, F_X11_firstDraft (uI (uI m (40, 0, 0) 13 0) (40, 0, 0) 9 0) = some ((), τ1) ∧ F_X11_next τ1 = some ((), τ0) := by
      obtain ⟨τ1, g1, _⟩ := m_first (uI (uI m (40, 0, 0) 13 0) (40, 0, 0) 9 0)
      rw [g1, bd_i] at et
      exact ⟨τ1, g1, et⟩
    rw [g1, bd_i, g2, bd_i]
    rfl
  have eX0 : F_X8_readAll (x.1 (0, 0, 0) 1) x = L_X8_readAll_7  FU (nI 0) σ0 (fun  (σ26 : St) => bd (F_X5_value 1 (1 : Int32) σ26) fun r28 σ27 => bd (F_X5_value 1 (0 : Int32) σ27) fun r31 σ30 => (if r28 ≤ r31 then some ((), σ30) else bd (F_X8_refuse (6 : Int32) (σ30.1 (2, 0, 0) 4) σ30) fun _ σ33 => some ((), σ33))) (fun  (σ36 : St) => bd (F_X5_value 1 (1 : Int32) σ36) fun r38 σ37 => bd (F_X5_value 1 (0 : Int32) σ37) fun r41 σ40 => (if r38 ≤ r41 then some ((), σ40) else bd (F_X8_refuse (6 : Int32) (σ40.1 (2, 0, 0) 4) σ40) fun _ σ43 => some ((), σ43))) := by
    rw [F_X8_readAll, hx1, eb, bd_i]
    rfl
  have kmE : ∀ (y : Int32) (τ : St) (ft pl : Nat), FM τ ft pl → 1 ≤ ft → ft ≤ 6 → (ck (inb (1 : Int32) 9) (ck (inb (0 : Int32) 9) (nam (fun (y16 : Int32) (σ18 : St) => bd (F_X11_needs y16 (6 : Int32) σ18) fun _ σ19 => nam (uI σ19 (40, 0, 0) 8 (0 : Int32)) fun σ21 => (if (σ21.1 (40, 0, 0) 13) ≤ 0 then bd (F_X11_keepDraft  σ21) fun _ σ22 => some (y, σ22) else some ((-10 : Int32) - (σ21.1 (40, 0, 0) 14), σ21))) fun k17 => (if (τ.1 (44, 0, 0) 0) < (τ.1 (44, 0, 0) 1) then k17 (0 : Int32) τ else k17 (1 : Int32) τ)))) = some ((-10 : Int32) - nI pl, uI τ (40, 0, 0) 8 0) := by
    intro y τ ft pl hF f1 f2
    have n0 := FM_n0 hF f1 f2
    have n1 : ¬ (uI τ (40, 0, 0) 8 0).1 (40, 0, 0) 13 ≤ 0 := by rw [rd_e, pk_un (by omega), hF.1]; exact nI_nle f1 (by omega)
    have q14 : (uI τ (40, 0, 0) 8 0).1 (40, 0, 0) 14 = nI pl := by rw [rd_e, pk_un (by omega)]; exact hF.2
    by_cases z : (τ.1 (44, 0, 0) 0) < (τ.1 (44, 0, 0) 1) <;> simp (disch := omega) only [inb_l, ck_i, nam_i, z, ↓reduceIte, m_needsF n0, bd_i, n1, q14]
  rcases J_all hT hTm (fun  (σ26 : St) => bd (F_X5_value 1 (1 : Int32) σ26) fun r28 σ27 => bd (F_X5_value 1 (0 : Int32) σ27) fun r31 σ30 => (if r28 ≤ r31 then some ((), σ30) else bd (F_X8_refuse (6 : Int32) (σ30.1 (2, 0, 0) 4) σ30) fun _ σ33 => some ((), σ33))) (fun  (σ36 : St) => bd (F_X5_value 1 (1 : Int32) σ36) fun r38 σ37 => bd (F_X5_value 1 (0 : Int32) σ37) fun r41 σ40 => (if r38 ≤ r41 then some ((), σ40) else bd (F_X8_refuse (6 : Int32) (σ40.1 (2, 0, 0) 4) σ40) fun _ σ43 => some ((), σ43))) (fun (y13 : Int32) (σ12 : St) => ck (inb (1 : Int32) 9) (ck (inb (0 : Int32) 9) (nam (fun (y16 : Int32) (σ18 : St) => bd (F_X11_needs y16 (6 : Int32) σ18) fun _ σ19 => nam (uI σ19 (40, 0, 0) 8 (0 : Int32)) fun σ21 => (if (σ21.1 (40, 0, 0) 13) ≤ 0 then bd (F_X11_keepDraft  σ21) fun _ σ22 => some (y13, σ22) else some ((-10 : Int32) - (σ21.1 (40, 0, 0) 14), σ21))) fun k17 => (if (σ12.1 (44, 0, 0) 0) < (σ12.1 (44, 0, 0) 1) then k17 (0 : Int32) σ12 else k17 (1 : Int32) σ12)))) (n + 1) 0 0 0 0 FU FU dft (fun _ => 4) (fun _ => 0) σ0 τ0 (by omega) (by omega) (by omega) (by unfold FU; omega) (by unfold FU; omega) (by omega) RG_dft (fun j hj => ⟨4, by omega, rfl⟩) (fun k hk => Or.inl rfl) hX0 hM0 hN0 with ⟨ft, pl, σ', τ', y, a1, a2, a3, a4, a5⟩ | ⟨l', p', r', ru', ce', to', σ', τ', q1, q2, a1, a2, a3, a4, a5, a6⟩
  · have f1 := a3.2.2.2.1
    have f2 := a3.2.2.2.2.1
    have n0 : ¬ σ'.1 (2, 0, 0) 10 = 0 := by rw [a3.2.1]; exact nI_ne0 f1 (by omega)
    rw [a1] at eX0
    rw [x_valueL (by omega), bd_i, x_valueL (by omega), bd_i, F_X8_refuse, if_neg n0, bd_i, ite_self] at eX0
    rw [a2] at eM0
    rw [kmE y τ' ft pl a4 f1 f2] at eM0
    exact S_ref h a3 a4 a5 eX0 eM0
  · rw [a1] at eX0
    rw [a2] at eM0
    obtain ⟨d1, d2, d3, d4, d5, d6, d7, d8, d9⟩ := id a3
    obtain ⟨m1, m2, m3, m4, m5⟩ := id a4
    rw [x_valueL (by omega), bd_i, x_valueL (by omega), bd_i, d7 1 (by omega), d7 0 (by omega)] at eX0
    obtain ⟨u0, _, u02, u03⟩ := q1.1
    obtain ⟨u1, _, u12, u13⟩ := q1.2.1
    rw [u03, u13] at eX0
    have mm0 := m3 0 (by omega)
    have mm1 := m3 1 (by omega)
    rw [u03] at mm0
    rw [u13] at mm1
    by_cases hz : u1 ≤ u0
    · rw [if_pos (by rw [i_le (by omega) (by omega)]; exact hz)] at eX0
      have hz2 : ¬ nI u0 < nI u1 := nI_nlt hz (by omega)
      have q13 : (uI τ' (40, 0, 0) 8 0).1 (40, 0, 0) 13 = 0 := by rw [rd_e, pk_un (by omega)]; exact a5
      have p13 : (uI τ' (40, 0, 0) 8 0).1 (40, 0, 0) 13 ≤ 0 := by rw [q13]; decide
      have eM1 : F_X11_text m = bd (F_X11_keepDraft (uI τ' (40, 0, 0) 8 0)) fun _ σ22 => some (nI l', σ22) := by
        rw [eM0]
        simp (disch := omega) only [inb_l, ck_i, nam_i, mm0, mm1, hz2, ↓reduceIte, m_needs1 (show ¬ (1 : Int32) = 0 by decide), bd_i, p13]
      rw [m_keepD, bd_i] at eM1
      have h1 : Rel (uI (uI σ' (0, 0, 0) 1 0) (0, 0, 0) 2 0) (uI τ' (40, 0, 0) 8 0) := Rel_KK h d1 m1 a5
      have frx : FrX x (uI (uI σ' (0, 0, 0) 1 0) (0, 0, 0) 2 0) := Fr_X d1
      have frm : FrM m (uI τ' (40, 0, 0) 8 0) := FrM_u (by omega) (Fr_M m1)
      have c5 : ∀ j, j < 96 → (uI (uI σ' (0, 0, 0) 1 0) (0, 0, 0) 2 0).1 (5, 0, 0) j = ce' j := fun j hj => by simp (disch := omega) only [rd_t]; exact d8 j hj
      have c41 : ∀ k, k < 9 → (uI (uI σ' (0, 0, 0) 1 0) (0, 0, 0) 2 0).1 (4, 1, 0) k = ru' k := fun k hk => by simp (disch := omega) only [rd_t]; exact d7 k hk
      have c29 : (uI (uI σ' (0, 0, 0) 1 0) (0, 0, 0) 2 0).1 (2, 0, 0) 9 = nI l' := by simp (disch := omega) only [rd_t]; exact d5
      have c03 : (uI (uI σ' (0, 0, 0) 1 0) (0, 0, 0) 2 0).1 (0, 0, 0) 2 = 0 := by rw [rd_e, pk_us]
      have c10 : (uI σ' (0, 0, 0) 1 0).1 (2, 0, 0) 10 = 0 := by rw [rd_t (by omega)]; exact d6
      have c44 : ∀ k, k < 9 → (uI τ' (40, 0, 0) 8 0).1 (44, 0, 0) k = ru' k := fun k hk => by rw [rd_t (by omega)]; exact m3 k hk
      have c46 : ∀ j, j < 96 → (uI τ' (40, 0, 0) 8 0).1 (46, 0, 0) j = ce' j := fun j hj => by rw [rd_t (by omega)]; exact m4 j hj
      have eX1 : F_X10_text x = bd (F_X5_takeAll 0 1 (uI (uI σ' (0, 0, 0) 1 0) (0, 0, 0) 2 0)) fun _ σ5 => bd (F_X6_beginAnew_t5 0 σ5) fun _ σ7 => nam (uI σ7 (20, 0, 0) 4 (0 : Int32)) fun σ9 => L_X10_text_83  FU (0 : Int32) σ9 := by
        rw [F_X10_text, eX0, bd_i, nam_i, nam_i, c10, c03, if_pos rfl]
      generalize uI (uI σ' (0, 0, 0) 1 0) (0, 0, 0) 2 0 = y at *
      generalize uI τ' (40, 0, 0) 8 0 = m8 at *
      have c0 : (0 : Int32).toNatClampNeg = 0 := by decide
      have c9 : (9 : Int32).toNatClampNeg = 9 := by decide
      have ec : cpk (0 : Int32) (0 : Int32) (9 : Int32) 9 9 = true := by decide
      have hRU := h1.2.2.1.1
      have eR : kd9 (m8.1 (44, 0, 0)) 0 (m8.1 (43, 0, 0)) = va_cpy (y.1 (4, 1, 0)) (y.1 (4, 0, 0)) 0 0 9 := by
        funext j
        unfold kd9
        by_cases hj : j < 9
        · rw [if_pos ⟨by omega, hj⟩, sb_cpy0 hj, c44 j hj, c41 j hj]
        · rw [if_neg (by omega), pk_cpy_out (Or.inr (by omega)), hRU]
      have hR9 : ∀ k, k < 9 → va_cpy (y.1 (4, 1, 0)) (y.1 (4, 0, 0)) 0 0 9 k = ru' k := fun k hk => by rw [sb_cpy0 hk, c41 k hk]
      rw [eR] at eM1
      have eT : F_X5_takeAll 0 1 y = some ((), uR y (4, 0, 0) (va_cpy (y.1 (4, 1, 0)) (y.1 (4, 0, 0)) 0 0 9)) := by
        rw [F_X5_takeAll, ec, ck_i, nam_i, c0, c9]
      generalize va_cpy (y.1 (4, 1, 0)) (y.1 (4, 0, 0)) 0 0 9 = R at *
      have hRG : RG R := by
        unfold RG at q1 ⊢
        rw [hR9 0 (by omega), hR9 1 (by omega), hR9 2 (by omega), hR9 3 (by omega), hR9 4 (by omega), hR9 5 (by omega), hR9 6 (by omega), hR9 7 (by omega), hR9 8 (by omega)]
        exact q1
      obtain ⟨g, g0, g1, g2, g3, g4, g5, g6, g7, g8, g9, g10⟩ := x_nosh (y := uR y (4, 0, 0) R) (ce := ce') (fun j hj => by rw [rr_t (by omega)]; exact c5 j hj)
      obtain ⟨nn, hGo, hEo⟩ := h1.2.2.2.1
      have hG : Gd 0 g := ⟨by omega, by rw [g10]; rfl, fun c hc => by rw [g1 c hc]; exact q2 c hc, ⟨0, by omega, by rw [g3]; rfl⟩, Or.inl g4, fun d hd => absurd hd (by omega), by unfold sm; omega⟩
      have hE : Eqv 0 g (upd (kdF (m8.1 (46, 0, 0)) 0 (m8.1 (41, 0, 0))) 175 (m8.1 (41, 0, 0) 175)) := by
        intro j hj
        have hj' : j < 96 ∨ (168 ≤ j ∧ j ≤ 176) := by rcases hj with q | q | q <;> omega
        rcases hj' with q | q
        · rw [pk_un (by omega), g1 j q]
          unfold kdF
          rw [if_pos (by omega), if_pos q, c46 j q]
        · by_cases e : j = 175
          · subst e
            rw [pk_us, g9, fx_r (by omega) (by omega) (by omega)]
            exact hEo.s (by omega) (by omega)
          · rw [pk_un e]
            have ek : kdF (m8.1 (46, 0, 0)) 0 (m8.1 (41, 0, 0)) j = 0 := by
              unfold kdF
              rw [if_pos (by omega), if_neg (by omega)]
            rw [ek]
            have : j = 168 ∨ j = 169 ∨ j = 170 ∨ j = 171 ∨ j = 172 ∨ j = 173 ∨ j = 174 ∨ j = 176 := by omega
            rcases this with rfl | rfl | rfl | rfl | rfl | rfl | rfl | rfl
            · exact g2.symm
            · exact g3.symm
            · exact g4.symm
            · exact g5.symm
            · exact g6.symm
            · exact g7.symm
            · exact g8.symm
            · exact g10.symm
      have h3 := Rel_scene2 (Rel_U h1 hRG) hG hE (fun j hj => by
        rw [pk_un (by omega), rr_t (by omega)]
        unfold kdF
        rw [if_neg (by omega)])
      have h5 := Rel_I (Rel_O h3)
      have ecm : pm (uR m8 (43, 0, 0) R) (upd (kdF (m8.1 (46, 0, 0)) 0 (m8.1 (41, 0, 0))) 175 (m8.1 (41, 0, 0) 175)) = uR (pm m8 (upd (kdF (m8.1 (46, 0, 0)) 0 (m8.1 (41, 0, 0))) 175 (m8.1 (41, 0, 0) 175))) (43, 0, 0) R := uR_sd (by decide)
      rw [ecm] at h5
      have p29 : (uI (px 0 (uR y (4, 0, 0) R) g) (20, 0, 0) 4 0).1 (2, 0, 0) 9 = nI l' := by
        rw [rd_t (by omega), px_t (by omega) (by omega) (by omega), rr_t (by omega)]
        exact c29
      refine ⟨nI l', _, _, ?_, eM1, h5, ?_, ?_⟩
      · rw [eX1, eT, bd_i, g0, bd_i, nam_i, x_img, p29]
      · exact FrX_u (by omega) (FrX_u (by omega) (FrX_u (by omega) (FrX_trans (FrX_trans frx (FrX_R (by omega) FrX_rfl)) FrX_px)))
      · exact FrM_u (by omega) (FrM_u (by omega) (FrM_u (by omega) (FrM_R (by omega) (FrM_trans frm FrM_pm))))
    · rw [if_neg (by rw [i_le (by omega) (by omega)]; exact hz), d2, show F_X8_refuse 6 (nI n) σ' = some ((), ftX σ' 6 n) from x_refuse (ft := 6) d6, bd_i] at eX0
      have hz2 : nI u0 < nI u1 := nI_lt (by omega) (by omega)
      have hFM : FM (uI (uI τ' (40, 0, 0) 13 6) (40, 0, 0) 14 (τ'.1 (40, 0, 0) 10)) 6 n := by
        refine ⟨?_, ?_⟩
        · simp (disch := omega) only [rd_e, pk_un, pk_us]; rfl
        · rw [rd_e, pk_us, a6]
      have hN0' : NXf τ' (uI (uI τ' (40, 0, 0) 13 6) (40, 0, 0) 14 (τ'.1 (40, 0, 0) 10)) := NXf_u (by omega) (by omega) (NXf_u (by omega) (by omega) NXf_rfl)
      have nd := m_needs0 (a2 := 6) a5
      have hK6 := KMf_N m1 hN0'
      have eM1 : F_X11_text m = some ((-10 : Int32) - nI n, uI (uI (uI τ' (40, 0, 0) 13 6) (40, 0, 0) 14 (τ'.1 (40, 0, 0) 10)) (40, 0, 0) 8 0) := by
        rw [eM0]
        generalize uI (uI τ' (40, 0, 0) 13 6) (40, 0, 0) 14 (τ'.1 (40, 0, 0) 10) = ρ at *
        have n1 : ¬ (uI ρ (40, 0, 0) 8 0).1 (40, 0, 0) 13 ≤ 0 := by rw [rd_e, pk_un (by omega), hFM.1]; decide
        have q14 : (uI ρ (40, 0, 0) 8 0).1 (40, 0, 0) 14 = nI n := by rw [rd_e, pk_un (by omega)]; exact hFM.2
        simp (disch := omega) only [inb_l, ck_i, nam_i, mm0, mm1, hz2, ↓reduceIte, nd, bd_i, n1, q14]
      exact S_ref h (FX_ft d1 (by omega) (by omega) (by omega)) hFM hK6 eX0 eM1
