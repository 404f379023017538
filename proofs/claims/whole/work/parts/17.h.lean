/-! mend: the call -/
theorem fr_u {c s w v : Int32} {g : Nat → Int32} {u : Nat} (hu : u < 96) : frG c s w (upd g u v) = upd (frG c s w g) u v := by
  unfold frG addG clG
  simp (disch := omega) only [pk_un, pk_us, Nat.add_zero]
  repeat rw [up_o (u := u) hu (by omega)]
theorem softN {v : Nat} (h : v < 5) : soft (nI v) := by
  refine ⟨?_, ?_, ?_⟩ <;> intro e
  · rw [i_eqr (by omega) (by decide)] at e; omega
  · rw [i_eqr (by omega) (by decide)] at e; omega
  · rw [i_eqr (by omega) (by decide)] at e; omega
theorem x_findMend {x : St} {tg : Int32} {c s w k0 : Nat} {g0 : Nat → Int32} (hR : RG (x.1 (4, 0, 0))) (hGc : Gc g0) (hc : c < 96) (hs : 1 ≤ s) (hs2 : s ≤ 60) (hw : w < 4) (hk : g0 c = nI k0) (hk8 : k0 < 8) (hsh : ¬ (k0 = 5 ∨ k0 = 6)) {kd : Nat → Nat} (hkd : ∀ u, u < 96 → g0 u = nI (kd u) ∧ kd u < 8) :
    ∃ x' g' V, F_X2_findMend 0 tg (px 3 (x13 x (nI c) (nI s) (nI w)) (frG (nI c) (nI s) (nI w) g0)) = some (if cP (trO (full (x.1 (4, 0, 0)) tg c s w g0) kd 96 0 ((rcN (x.1 (4, 0, 0)) tg 401 (frG (nI c) (nI s) (nI w) g0)).getD 401, none)).2 = -4 then 0 else 1, px 3 x' g') ∧ MX x V (nI c) (nI s) (nI w) (trO (full (x.1 (4, 0, 0)) tg c s w g0) kd 96 0 ((rcN (x.1 (4, 0, 0)) tg 401 (frG (nI c) (nI s) (nI w) g0)).getD 401, none)) x' := by
  have hG1 := Gd_fr hGc hc hs hs2 hw hk hk8 (fun q => hsh (Or.inl q)) (fun q => hsh (Or.inr q))
  have c0 : (0 : Int32).toNatClampNeg = 0 := by decide
  have c96 : (96 : Int32).toNatClampNeg = 96 := by decide
  have ec : cpk (0 : Int32) (0 : Int32) (96 : Int32) 96 96 = true := by decide
  have n13 : nX 13 0 := Or.inr (Or.inr (Or.inr (Or.inl ⟨by omega, by omega⟩)))
  have n14 : nX 14 0 := Or.inr (Or.inr (Or.inr (Or.inl ⟨by omega, by omega⟩)))
  have n15 : nX 15 0 := Or.inr (Or.inr (Or.inr (Or.inl ⟨by omega, by omega⟩)))
  have un : ∀ (x : St) (k : Nat) (v : Int32) (g : Nat → Int32), uI (px 3 x g) (13, 0, 0) k v = px 3 (uI x (13, 0, 0) k v) g := fun x k v g => px_un (ps_t (by omega) (by omega) (by omega))
  obtain ⟨g1, e1, e2⟩ := x_till (x := x13 x (nI c) (nI s) (nI w)) (K := 401) (tg := tg) (by rw [x13_4]; exact hR) (by omega) 401 0 FU _ (filR 0 0 96 ((x13 x (nI c) (nI s) (nI w)).1 (14, 0, 0))) (by omega) (by unfold FU; omega) hG1 ⟨c, hc, fr_d.1⟩
  rw [x13_4, show (nI 401 - 1 : Int32) = 400 from by decide] at e1
  have eF : F_J7_fill_53178_t14 0 (px 3 (x13 x (nI c) (nI s) (nI w)) (frG (nI c) (nI s) (nI w) g0)) = some ((), px 3 (uR (x13 x (nI c) (nI s) (nI w)) (14, 0, 0) (filR 0 0 96 ((x13 x (nI c) (nI s) (nI w)).1 (14, 0, 0)))) (frG (nI c) (nI s) (nI w) g0)) := by
    have := x_fill14 (v := 0) 96 0 FU (px 3 (x13 x (nI c) (nI s) (nI w)) (frG (nI c) (nI s) (nI w) g0)) (by omega) (by unfold FU; omega)
    rw [px_R (by omega) (by omega) (by omega), px_t (by omega) (by omega) (by omega)] at this
    exact this
  have hmk : ∀ u, u < 96 → mkT (x.1 (4, 0, 0)) tg 401 (frG (nI c) (nI s) (nI w) g0) (filR 0 0 96 ((x13 x (nI c) (nI s) (nI w)).1 (14, 0, 0))) u = 0 → ¬ mkT (x.1 (4, 0, 0)) tg 401 (frG (nI c) (nI s) (nI w) g0) (filR 0 0 96 ((x13 x (nI c) (nI s) (nI w)).1 (14, 0, 0))) u = 1 := by
    intro u hu h
    rw [h]; decide
  have hrcu := fun u v (hu : u < 96) (hv : v < 5) (hku : kd u ≤ 4) hz => rcN_u (tg := tg) (u := u) (v := nI v) hR hu (softN hv) 401 (frG (nI c) (nI s) (nI w) g0) (filR 0 0 96 ((x13 x (nI c) (nI s) (nI w)).1 (14, 0, 0))) hG1 ⟨c, hc, fr_d.1⟩ (by rw [fr_lo (Or.inl hu), (hkd u hu).1]; exact softN (by omega)) hz
  generalize mkT (x.1 (4, 0, 0)) tg 401 (frG (nI c) (nI s) (nI w) g0) (filR 0 0 96 ((x13 x (nI c) (nI s) (nI w)).1 (14, 0, 0))) = MK at *
  generalize ho : rcN (x.1 (4, 0, 0)) tg 401 (frG (nI c) (nI s) (nI w) g0) = o at *
  have ho4 : o.getD 401 ≤ 401 := by
    cases o with
    | none => exact Nat.le_refl _
    | some T => have := rcN_b _ _ ho; show T ≤ 401; omega
  generalize hX : uR (x13 x (nI c) (nI s) (nI w)) (14, 0, 0) MK = X at e1
  have h14 : X.1 (14, 0, 0) = MK := by rw [← hX]; exact uR_self
  have hKX : KX x X := by rw [← hX]; exact KX_R n14 KX_13
  have h3 : X.1 (13, 0, 0) 3 = nI c ∧ X.1 (13, 0, 0) 4 = nI s ∧ X.1 (13, 0, 0) 5 = nI w := by
    rw [← hX, rr_t (by omega)]
    unfold x13
    refine ⟨?_, ?_, ?_⟩ <;> simp (disch := omega) only [rd_e, pk_un, pk_us]
  generalize hV : va_cpy MK (X.1 (15, 0, 0)) 0 0 96 = V
  have hVc : ∀ u, u < 96 → V u = MK u := fun u hu => by rw [← hV, sb_cpy0 hu]
  have hM : MX x V (nI c) (nI s) (nI w) (o.getD 401, none) (uI (uI (uI (uR X (15, 0, 0) V) (13, 0, 0) 6 (nI (o.getD 401))) (13, 0, 0) 7 (-4)) (13, 0, 0) 8 (-4)) := by
    refine ⟨KX_u n13 (KX_u n13 (KX_u n13 (KX_R n15 hKX))), ?_, ?_, ?_, ?_, ?_, ?_, ?_⟩
    · simp (disch := omega) only [rd_t, rr_e]
    · simp (disch := omega) only [rd_e, pk_un, pk_us, rr_t]; exact h3.1
    · simp (disch := omega) only [rd_e, pk_un, pk_us, rr_t]; exact h3.2.1
    · simp (disch := omega) only [rd_e, pk_un, pk_us, rr_t]; exact h3.2.2
    · simp (disch := omega) only [rd_e, pk_un, pk_us, rr_t]
    · simp (disch := omega) only [rd_e, pk_un, pk_us, rr_t, cP]
    · simp (disch := omega) only [rd_e, pk_un, pk_us, rr_t, cQ]
  obtain ⟨x', g', a1, a2⟩ := x_mdO (V := V) (tg := tg) hR hGc hc hs hs2 hw hk hk8 hsh hkd (o := o) ho4 (fun u hu h4 h0 v hv => by
    unfold full
    rw [fr_u hu]
    exact hrcu u v hu hv h4 (hmk u hu (by rw [← hVc u hu]; exact h0))) (fun (σ46 : St) => (if (σ46.1 (13, 0, 0) 7) = (-4 : Int32) then some ((0 : Int32), σ46) else some ((1 : Int32), σ46))) 96 0 FU (o.getD 401, none) _ g1 (by omega) (by unfold FU; omega) (Nat.le_refl _) hM (fun j hj => by rw [e2 j hj, fr_lo hj])
  refine ⟨x', g', V, ?_, a2⟩
  have hend : (px 3 x' g').1 (13, 0, 0) 7 = cP (trO (full (x.1 (4, 0, 0)) tg c s w g0) kd 96 0 (o.getD 401, none)).2 := by
    rw [px_t (by omega) (by omega) (by omega)]; exact a2.2.2.2.2.2.2.1
  have hb : ∀ y, y = nI (o.getD 401) → (nam (uI (px 3 (uR X (15, 0, 0) V) g1) (13, 0, 0) 6 y) fun σ11 => nam (uI σ11 (13, 0, 0) 7 (-4 : Int32)) fun σ12 => nam (uI σ12 (13, 0, 0) 8 (-4 : Int32)) fun σ13 => L_X2_findMend_65 0 tg FU (0 : Int32) σ13 (fun  (σ46 : St) => (if (σ46.1 (13, 0, 0) 7) = (-4 : Int32) then some ((0 : Int32), σ46) else some ((1 : Int32), σ46)))) = some (if cP (trO (full (x.1 (4, 0, 0)) tg c s w g0) kd 96 0 (o.getD 401, none)).2 = -4 then 0 else 1, px 3 x' g') := by
    intro y hy
    rw [hy, nam_i, un, nam_i, un, nam_i, un]
    refine Eq.trans a1 ?_
    rw [hend]
    split <;> rfl
  rw [F_X2_findMend, eF, bd_i, x_tillU, e1, bd_i, ec, ck_i, nam_i, c0, c96, px_R (by omega) (by omega) (by omega), px_t (by omega) (by omega) (by omega), px_t (by omega) (by omega) (by omega), h14, hV, nam_i]
  cases o with
  | none =>
    rw [if_pos (show rI 0 none = -4 from rfl)]
    exact hb _ rfl
  | some T =>
    have hT := rcN_b _ _ ho
    have e : rI 0 (some T) = nI T := by show nI (0 + T) = nI T; rw [Nat.zero_add]
    rw [e, if_neg (by rw [i_nm4 (by omega)]; exact not_false)]
    exact hb _ rfl
theorem s_mend (a b c d e : Int32) : Sim (F_X10_mend a b c d e) (F_X11_mend a b c d e) := by
  intro x m h
  have hR := h.2.2.1.2
  have hRe := h.2.2.1.1
  have hRm : RG (m.1 (43, 0, 0)) := by rw [hRe]; exact hR
  obtain ⟨hGc, hMc⟩ := Rel_cells h
  by_cases ha : DT a b c
  · obtain ⟨⟨c, _, hc, rfl⟩, ⟨s, hs, hs2, rfl⟩, ⟨w, _, hw, rfl⟩⟩ := id ha
    have hc' : c < 96 := by omega
    have hw' : w < 4 := by omega
    by_cases hd : IV 0 95 d
    · obtain ⟨T, _, T2, rfl⟩ := id hd
      by_cases he : IV 0 2 e
      · obtain ⟨y, _, y2, rfl⟩ := id he
        obtain ⟨k, hk8, hk⟩ := hGc.1 c hc'
        have hkm : m.1 (41, 0, 0) c = nI k := by rw [hMc c (Or.inl hc'), hk]
        by_cases hsh : k = 5 ∨ k = 6
        · refine Sim_same (r := -2) h ?_ ?_
          · rw [F_X10_mend, x_dtt hc' hs hs2 hw', bd_i, if_neg (by decide), x_cellt (by omega), bd_i, if_neg (by decide), x_wt (by omega) (by omega) (by omega), bd_i, if_neg (by decide), x_openS hc' hk hk8, bd_i, if_pos hsh, if_pos rfl]
          · rw [F_X11_mend, m_dtt hc' hs hs2 hw', bd_i, if_neg (by decide), m_cellt (by omega), bd_i, if_neg (by decide), m_wt (by omega) (by omega) (by omega), bd_i, if_neg (by decide), inb_i (by omega) (by omega), ck_i, nI_clamp (by omega), hkm, m_shut hk8, bd_i, if_pos hsh, if_neg (by decide)]
        · obtain ⟨g0, hg0, eB⟩ := x_begin (c := nI c) (s := nI s) (w := nI w) hGc.2.2
          have hGc0 : Gc g0 := ⟨fun c hc => by rw [hg0 c (Or.inl hc)]; exact hGc.1 c hc, by rw [hg0 169 (by omega)]; exact hGc.2.1, by rw [hg0 170 (by omega)]; exact hGc.2.2⟩
          have hk0 : g0 c = nI k := by rw [hg0 c (Or.inl hc'), hk]
          have hA : Ag m g0 := ⟨fun c hc => by rw [hMc c (Or.inl hc), hg0 c (Or.inl hc)], by rw [hMc 169 (by omega), hg0 169 (by omega)], by rw [hMc 170 (by omega), hg0 170 (by omega)]⟩
          have hkd : ∀ u, u < 96 → g0 u = nI ((g0 u).toNatClampNeg) ∧ (g0 u).toNatClampNeg < 8 := by
            intro u hu
            obtain ⟨q, q1, q2⟩ := hGc0.1 u hu
            rw [q2, nI_clamp (by omega)]
            exact ⟨rfl, q1⟩
          obtain ⟨x', g1, V, e1, hMX⟩ := x_findMend (x := x) (tg := nI T) hR hGc0 hc' hs hs2 hw' hk0 hk8 hsh hkd
          obtain ⟨g2, e2⟩ := m_reachOf (m := m) (tg := nI T) hRm hA hGc0 hc' hs hs2 hw' hk0 hk8 hsh
          generalize ho : rcN (x.1 (4, 0, 0)) (nI T) 401 (frG (nI c) (nI s) (nI w) g0) = o at *
          rw [hRe, ho] at e2
          have ho4 : o.getD 401 ≤ 401 := by
            cases o with
            | none => exact Nat.le_refl _
            | some T => have := rcN_b _ _ ho; show T ≤ 401; omega
          have eo : mB (o.getD 401) = rI 0 o := by
            cases o with
            | none => rfl
            | some T' =>
              have := rcN_b _ _ ho
              show mB T' = nI (0 + T')
              rw [mB_n (by omega), Nat.zero_add]
          obtain ⟨b1, b2, b3, b4, b5, e3⟩ := m_mdO (m := m) (tg := nI T) (G := g0) hRm hGc0 hA hc' hs hs2 hw' hk0 hk8 hsh hkd (o := o) (fun u hu => by
            unfold full
            rw [← (hkd u hu).1, upd_id, hRe, ho]) ho4 (c5 := nI y) (fun (y46 : Int32) (y47 : Int32) (σ45 : St) => (if y47 = (-4 : Int32) then some ((-4 : Int32), σ45) else (if nI y = 0 then some (y46, σ45) else (if nI y = (1 : Int32) then ck (decide (¬ (5 : Int32) = 0)) (some (y47 / (5 : Int32), σ45)) else ck (decide (¬ (5 : Int32) = 0)) (some (y47 - y47 / (5 : Int32) * (5 : Int32), σ45)))))) 96 0 FU (o.getD 401, none) (g2 96) (g2 108) (g2 120) (g2 132) (g2 144) (by omega) (by unfold FU; omega) (Nat.le_refl _)
          rw [hRe] at e3
          have hok := trO_ok (full := full (x.1 (4, 0, 0)) (nI T) c s w g0) (kd := fun u => (g0 u).toNatClampNeg) (fun u v T h => rcN_b _ _ h) 96 0 (o.getD 401, none) (by omega) (Or.inl rfl)
          generalize trO (full (x.1 (4, 0, 0)) (nI T) c s w g0) (fun u => (g0 u).toNatClampNeg) 96 0 (o.getD 401, none) = S at *
          have t6 : (px 3 x' g1).1 (13, 0, 0) 6 = nI S.1 := by rw [px_t (by omega) (by omega) (by omega)]; exact hMX.2.2.2.2.2.1
          have t7 : (px 3 x' g1).1 (13, 0, 0) 7 = cP S.2 := by rw [px_t (by omega) (by omega) (by omega)]; exact hMX.2.2.2.2.2.2.1
          have t8 : (px 3 x' g1).1 (13, 0, 0) 8 = cQ S.2 := by rw [px_t (by omega) (by omega) (by omega)]; exact hMX.2.2.2.2.2.2.2
          have d5 : decide (¬ (5 : Int32) = 0) = true := by decide
          refine Sim_scr (r := if cP S.2 = -4 then -4 else if nI y = 0 then nI S.1 else if nI y = 1 then cP S.2 else cQ S.2) (x' := px 3 x' g1) (m' := po m b1 b2 b3 b4 b5) h ?_ ?_ (KX_px (by omega) hMX.1) (KM_po KM_rfl)
          · rw [F_X10_mend, x_dtt hc' hs hs2 hw', bd_i, if_neg (by decide), x_cellt (by omega), bd_i, if_neg (by decide), x_wt (by omega) (by omega) (by omega), bd_i, if_neg (by decide), x_openS hc' hk hk8, bd_i, if_neg hsh, if_neg (by decide), eB, bd_i, e1, bd_i, t6, t7, t8]
            by_cases z : cP S.2 = -4
            · rw [if_pos z, if_pos rfl, if_pos z]
            · rw [if_neg z, if_neg (by decide), if_neg z]
              split
              · rfl
              · split <;> rfl
          · rw [F_X11_mend, m_dtt hc' hs hs2 hw', bd_i, if_neg (by decide), m_cellt (by omega), bd_i, if_neg (by decide), m_wt (by omega) (by omega) (by omega), bd_i, if_neg (by decide), inb_i (by omega) (by omega), ck_i, nI_clamp (by omega), hkm, m_shut hk8, bd_i, if_neg hsh, if_pos rfl, e2, bd_i, ← eo]
            refine Eq.trans e3 ?_
            rcases hok with q | ⟨u, v, q1, q2, q3, q4⟩
            · rw [q, if_pos (show mP none = -4 from rfl), if_pos (show cP none = -4 from rfl)]
            · have p1 : mP (some (u, v)) = nI (5 * u + v) := rfl
              have p2 : cP (some (u, v)) = nI u := rfl
              have p3 : cQ (some (u, v)) = nI v := rfl
              have dv : nI (5 * u + v) / 5 = nI u := by
                rw [show (5 : Int32) = nI 5 from rfl, pk_div (by omega) (by omega) (by omega), show (5 * u + v) / 5 = u by omega]
              have md : nI (5 * u + v) - nI (5 * u + v) / 5 * 5 = nI v := by
                rw [dv, i_ml, pk_sub (by omega), show 5 * u + v - u * 5 = v by omega]
              have n1 : ¬ nI (5 * u + v) = -4 := by rw [i_nm4 (by omega)]; exact not_false
              have n2 : ¬ nI u = -4 := by rw [i_nm4 (by omega)]; exact not_false
              rw [q3, p1, p2, p3, if_neg n1, if_neg n2, mB_n q4, d5, ck_i, ck_i, md, dv]
              split
              · rfl
              · split <;> rfl
      · refine Sim_same (r := -1) h ?_ ?_
        · rw [F_X10_mend, x_dtt hc' hs hs2 hw', bd_i, if_neg (by decide), x_cellt (by omega), bd_i, if_neg (by decide), x_wf he (by omega) (by omega), bd_i, if_pos rfl]
        · rw [F_X11_mend, m_dtt hc' hs hs2 hw', bd_i, if_neg (by decide), m_cellt (by omega), bd_i, if_neg (by decide), m_wf he (by omega) (by omega), bd_i, if_pos rfl]
    · refine Sim_same (r := -1) h ?_ ?_
      · rw [F_X10_mend, x_dtt hc' hs hs2 hw', bd_i, if_neg (by decide), x_cellf hd, bd_i, if_pos rfl]
      · rw [F_X11_mend, m_dtt hc' hs hs2 hw', bd_i, if_neg (by decide), m_cellf hd, bd_i, if_pos rfl]
  · refine Sim_same (r := -1) h ?_ ?_
    · rw [F_X10_mend, x_dtf ha, bd_i, if_pos rfl]
    · rw [F_X11_mend, m_dtf ha, bd_i, if_pos rfl]
