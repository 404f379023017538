/-! falls -/
def flL (p : Nat → Bool) : Nat → Nat → Int64 → Int64
  | 0, _, a => a
  | k + 1, v, a => flL p k (v + 1) (if p v then a ||| ((1 : Int64) <<< ((nI v).toInt64 &&& 63)) else a)
theorem tsB_x {R : Nat → Int32} {s : Int32} : (if s < R 2 then (0 : Int32) else if R 3 < s then 0 else 1) = if tsB R s then 1 else 0 := by
  unfold tsB
  by_cases h2 : s < R 2
  · simp only [h2, not_true_eq_false, false_and, decide_false, Bool.false_eq_true, ↓reduceIte]
  · by_cases h3 : R 3 < s <;> simp only [h2, h3, not_true_eq_false, not_false_eq_true, and_false, and_self, decide_false, decide_true, Bool.false_eq_true, ↓reduceIte]
theorem x_flL {σ : St} {f1 f0 : Bool} : ∀ (k v fu : Nat) (a : Int64), v + k = 61 → k < fu → L_X10_falls_141 (bI f1) (bI f0) fu a (nI v) σ = some (flL (fun v => if tsB (σ.1 (4, 0, 0)) (nI v) then f1 else f0) k v a, σ) := by
  intro k
  induction k with
  | zero =>
    intro v fu a hk hf
    obtain ⟨f, rfl⟩ : ∃ f, fu = f + 1 := ⟨fu - 1, by omega⟩
    have z : 60 < v := by omega
    simp (disch := omega) only [L_X10_falls_141, i_ltl, z, ↓reduceIte, flL]
  | succ k ih =>
    intro v fu a hk hf
    obtain ⟨f, rfl⟩ : ∃ f, fu = f + 1 := ⟨fu - 1, by omega⟩
    have z : ¬ 60 < v := by omega
    have e1 : bI true = 1 := rfl
    have e0 : bI false = 0 := rfl
    rw [flL, ← ih (v + 1) f _ (by omega) (by omega), L_X10_falls_141.eq_2]
    by_cases h : tsB (σ.1 (4, 0, 0)) (nI v) = true
    · cases f1 <;> simp (disch := omega) only [i_ltl, z, ↓reduceIte, x_teeth, tsB_x, h, bd_i, ft10, e1, e0, nam_i, i_al, Bool.false_eq_true]
    · cases f0 <;> simp (disch := omega) only [i_ltl, z, ↓reduceIte, x_teeth, tsB_x, h, bd_i, ft10, e1, e0, nam_i, i_al, Bool.false_eq_true]
theorem m_flL {m : St} {g : Nat → Int32} {c w gl : Nat} (hA : Ag m g) (hg : ∀ c, c < 96 → ∃ k, k < 8 ∧ g c = nI k) (hw : wok g c w) (hgl : gl < 96) (hq : ∀ b q, (wk b g 385 0 c w (fun _ => none)).1 = some q → q < 96) : ∀ (k v fu : Nat) (a : Int64) (S : Nat → Int32) (a1 a2 a3 a4 a5 : Int32), v + k = 61 → k < fu → ∃ S' b1 b2 b3 b4 b5, L_X11_falls_53 (nI c) (nI w) (nI gl) fu a (nI v) (po (uR m (48, 0, 0) S) a1 a2 a3 a4 a5) = some (flL (fun v => decide ((wk (tsB (m.1 (43, 0, 0)) (nI v)) g 385 0 c w (fun _ => none)).1 = some gl)) k v a, po (uR m (48, 0, 0) S') b1 b2 b3 b4 b5) := by
  intro k
  induction k with
  | zero =>
    intro v fu a S a1 a2 a3 a4 a5 hk hf
    obtain ⟨f, rfl⟩ : ∃ f, fu = f + 1 := ⟨fu - 1, by omega⟩
    have z : 60 < v := by omega
    refine ⟨S, a1, a2, a3, a4, a5, ?_⟩
    simp (disch := omega) only [L_X11_falls_53, i_ltl, z, ↓reduceIte, flL]
  | succ k ih =>
    intro v fu a S a1 a2 a3 a4 a5 hk hf
    obtain ⟨f, rfl⟩ : ∃ f, fu = f + 1 := ⟨fu - 1, by omega⟩
    have z : ¬ 60 < v := by omega
    rw [flL]
    rcases m_alo (m := m) (s := nI v) (a1 := a1) (a2 := a2) (a3 := a3) (a4 := a4) (a5 := a5) (S0 := S) hA hg hw with ⟨q, t', c', w', sn', S', w9, t9, e1, e2⟩ | ⟨t', c', w', sn', S', e1, e2, e3⟩
    · have hq96 := hq _ q (by rw [e1])
      have n2 : ¬ (2 : Int32) = 0 := by decide
      rw [e1]
      by_cases hqg : q = gl
      · subst hqg
        obtain ⟨S2, b1, b2, b3, b4, b5, e⟩ := ih (v + 1) f (a ||| ((1 : Int64) <<< ((nI v).toInt64 &&& 63))) S' (nI q) (nI v) w9 2 t9 (by omega) (by omega)
        refine ⟨S2, b1, b2, b3, b4, b5, ?_⟩
        simp only [decide_true, ↓reduceIte]
        rw [← e, L_X11_falls_53.eq_2]
        simp (disch := omega) only [i_ltl, z, ↓reduceIte, e2, bd_i, po_18, n2, po_15, nam_i, i_al]
      · have hne : ¬ nI q = nI gl := by rw [i_eq (by omega) (by omega)]; exact hqg
        have hso : ¬ (some q = some gl) := fun h => hqg (Option.some.inj h)
        obtain ⟨S2, b1, b2, b3, b4, b5, e⟩ := ih (v + 1) f a S' (nI q) (nI v) w9 2 t9 (by omega) (by omega)
        refine ⟨S2, b1, b2, b3, b4, b5, ?_⟩
        simp only [hso, decide_false, Bool.false_eq_true, ↓reduceIte]
        rw [← e, L_X11_falls_53.eq_2]
        simp (disch := omega) only [i_ltl, z, ↓reduceIte, e2, bd_i, po_18, n2, po_15, hne, nam_i, i_al, Int64.or_zero]
    · rw [e1]
      obtain ⟨S2, b1, b2, b3, b4, b5, e⟩ := ih (v + 1) f a S' (nI c') (nI v) (nI w') 0 (-4) (by omega) (by omega)
      refine ⟨S2, b1, b2, b3, b4, b5, ?_⟩
      have hso : ¬ (none = some gl) := by simp
      simp only [hso, decide_false, Bool.false_eq_true, ↓reduceIte]
      rw [← e, L_X11_falls_53.eq_2]
      simp (disch := omega) only [i_ltl, z, ↓reduceIte, e2, bd_i, po_18, nam_i, i_al, Int64.or_zero]
theorem wk_q {b : Bool} {g : Nat → Int32} (hg : ∀ c, c < 96 → ∃ k, k < 8 ∧ g c = nI k) : ∀ (k t c w : Nat) (sn : Nat → Option Nat), wok g c w → ∀ q, (wk b g k t c w sn).1 = some q → q < 96 := by
  intro k
  induction k with
  | zero => intro t c w sn hw q h; cases h
  | succ k ih =>
    intro t c w sn hw q h
    rw [wk] at h
    split at h
    · obtain ⟨j, hj, hje, hcase⟩ := stq_ok (b := b) hg hw
      rcases hcase with ⟨z5, i, hi, hie, est⟩ | ⟨q', hq, hnx, hq6, est⟩ | ⟨q', hq, hnx, hq5, hq6, est, hwq⟩
      · rw [est] at h
        simp only [Bool.false_eq_true, ↓reduceIte] at h
        exact ih _ _ _ _ ⟨hw.1, hi, hw.2.2⟩ q h
      · rw [est] at h
        simp only [↓reduceIte] at h
        cases h
        exact hq
      · rw [est] at h
        simp only [Bool.false_eq_true, ↓reduceIte] at h
        exact ih _ _ _ _ hwq q h
    · cases h
theorem s_falls (a b c : Int32) : Sim (F_X10_falls a b c) (F_X11_falls a b c) := by
  intro x m h
  have hR := h.2.2.1.2
  have hRe := h.2.2.1.1
  obtain ⟨hGc, hMc⟩ := Rel_cells h
  have m1 : ∀ a b : Int32, (1 : Int32) = nI 1 := fun _ _ => rfl
  by_cases ha : IV 0 95 a
  · obtain ⟨c0, _, hc, rfl⟩ := id ha
    have hc' : c0 < 96 := by omega
    by_cases hb : IV 0 3 b
    · obtain ⟨w, _, hw, rfl⟩ := id hb
      have hw' : w < 4 := by omega
      have hdt : ∀ σ, F_X11_isDrop (nI c0) 1 (nI w) σ = some (1, σ) := fun σ => m_dtt (s := 1) hc' (by omega) (by omega) hw' σ
      by_cases hd : IV 0 95 c
      · obtain ⟨gl, _, hgl, rfl⟩ := id hd
        have hgl' : gl < 96 := by omega
        obtain ⟨k, hk8, hk⟩ := hGc.1 c0 hc'
        obtain ⟨kg, hkg8, hkg⟩ := hGc.1 gl hgl'
        have hkm : m.1 (41, 0, 0) c0 = nI k := by rw [hMc c0 (Or.inl hc'), hk]
        have hkgm : m.1 (41, 0, 0) gl = fx 0 x gl := hMc gl (Or.inl hgl')
        by_cases hsh : k = 5 ∨ k = 6
        · refine Sim_same (r := -2) h ?_ ?_
          · rw [F_X10_falls, x_cellt hc', bd_i, if_neg (by decide), x_wayt hw', bd_i, if_neg (by decide), x_cellt hgl', bd_i, if_neg (by decide), x_openS hc' hk hk8, bd_i, if_pos hsh, if_pos rfl]
          · rw [F_X11_falls, hdt, bd_i, if_neg (by decide), m_cellt hgl', bd_i, if_neg (by decide), inb_i (by omega) (by omega), ck_i, nI_clamp (by omega), hkm, m_shut hk8, bd_i, if_pos hsh, if_neg (by decide)]
        · by_cases hg6 : fx 0 x gl = 6
          · have hwok : wok (fx 0 x) c0 w := ⟨hc', hw', k, hk8, fun q => hsh (Or.inl q), fun q => hsh (Or.inr q), hk⟩
            have hA : Ag m (fx 0 x) := ⟨fun c hc => hMc c (Or.inl hc), hMc 169 (by omega), hMc 170 (by omega)⟩
            obtain ⟨a2, b2, r1, r2, r3, r4, r5⟩ := hR.2.2.1
            have t1 : tsB (x.1 (4, 0, 0)) (nI a2) = true := by
              unfold tsB
              rw [r4, r5]
              exact decide_eq_true (by rw [i_lt (by omega) (by omega), i_lt (by omega) (by omega)]; omega)
            have t0 : tsB (x.1 (4, 0, 0)) (nI (b2 + 1)) = false := by
              unfold tsB
              rw [r4, r5]
              exact decide_eq_false (by rw [i_lt (by omega) (by omega), i_lt (by omega) (by omega)]; omega)
            have fol : ∀ (s : Nat) (σ : St), 1 ≤ s → s ≤ 61 → KX x σ → ∃ r σ', F_X3_follow 0 0 (nI c0) (nI s) (nI w) σ = some (r, σ') ∧ KX x σ' ∧ (r = nI gl ↔ (wk (tsB (x.1 (4, 0, 0)) (nI s)) (fx 0 x) 385 0 c0 w (fun _ => none)).1 = some gl) := by
              intro s σ s1 s2 hK
              have hs0 : (0 : Int32) < nI s := nI_lt (a := 0) (by omega) (by omega)
              rcases x_fol (x := x) (σ := σ) hs0 hGc.1 hwok hK with ⟨q, t', c', w', sn', σ', hq, e1, e2, e3⟩ | ⟨t', c', w', sn', t0, σ', hc1, hw1, ht1, ht0, e1, e2, e3, e4, e5, e6, e7, e8⟩
              · refine ⟨_, σ', e2, e3, ?_⟩
                rw [e1, i_eq (by omega) (by omega)]
                exact ⟨fun h => by rw [h], fun h => Option.some.inj h⟩
              · refine ⟨_, σ', e4, e5, ?_⟩
                rw [e1]
                constructor
                · intro h
                  have : ¬ nI gl = -4 := by rw [i_nm4 (by omega)]; exact not_false
                  exact absurd h.symm this
                · intro h; cases h
            obtain ⟨r1', σ1, f1, k1, w1⟩ := fol a2 x (by omega) (by omega) KX_rfl
            obtain ⟨r2', σ2, f2, k2, w2⟩ := fol (b2 + 1) σ1 (by omega) (by omega) k1
            rw [t1] at w1
            rw [t0] at w2
            have em : m = po (uR m (48, 0, 0) (m.1 (48, 0, 0))) (m.1 (40, 0, 0) 15) (m.1 (40, 0, 0) 16) (m.1 (40, 0, 0) 17) (m.1 (40, 0, 0) 18) (m.1 (40, 0, 0) 19) := by
              rw [uR_id]
              unfold po
              rw [uI_id, uI_id, uI_id, uI_id, uI_id]
            obtain ⟨S', d1, d2, d3, d4, d5, fM⟩ := m_flL (m := m) hA hGc.1 hwok hgl' (fun b q hq => wk_q hGc.1 385 0 c0 w _ hwok q hq) 60 1 FU 0 (m.1 (48, 0, 0)) (m.1 (40, 0, 0) 15) (m.1 (40, 0, 0) 16) (m.1 (40, 0, 0) 17) (m.1 (40, 0, 0) 18) (m.1 (40, 0, 0) 19) (by omega) (by unfold FU; omega)
            rw [← em, hRe] at fM
            have fX := x_flL (σ := σ2) (f1 := decide ((wk true (fx 0 x) 385 0 c0 w (fun _ => none)).1 = some gl)) (f0 := decide ((wk false (fx 0 x) 385 0 c0 w (fun _ => none)).1 = some gl)) 60 1 FU 0 (by omega) (by unfold FU; omega)
            rw [KX_4 k2] at fX
            have ep : (fun v => if tsB (x.1 (4, 0, 0)) (nI v) then decide ((wk true (fx 0 x) 385 0 c0 w (fun _ => none)).1 = some gl) else decide ((wk false (fx 0 x) 385 0 c0 w (fun _ => none)).1 = some gl)) = (fun v => decide ((wk (tsB (x.1 (4, 0, 0)) (nI v)) (fx 0 x) 385 0 c0 w (fun _ => none)).1 = some gl)) := by
              funext v
              cases tsB (x.1 (4, 0, 0)) (nI v) <;> rfl
            rw [ep] at fX
            refine Sim_scr (r := flL (fun v => decide ((wk (tsB (x.1 (4, 0, 0)) (nI v)) (fx 0 x) 385 0 c0 w (fun _ => none)).1 = some gl)) 60 1 0) (x' := σ2) (m' := po (uR m (48, 0, 0) S') d1 d2 d3 d4 d5) h ?_ ?_ k2 (KM_po (KM_R (by omega) KM_rfl))
            · rw [F_X10_falls, x_cellt hc', bd_i, if_neg (by decide), x_wayt hw', bd_i, if_neg (by decide), x_cellt hgl', bd_i, if_neg (by decide), x_openS hc' hk hk8, bd_i, if_neg hsh, if_neg (by decide), x_kindS KX_rfl hgl', bd_i, if_pos hg6, x_valueL (by omega), bd_i, x_valueL (by omega), bd_i, r4, r5, f1, bd_i, nam_i]
              by_cases z1 : r1' = nI gl
              · rw [if_pos z1]
                show bd _ _ = _
                rw [i_al, f2, bd_i, nam_i]
                rw [decide_eq_true (w1.mp z1)] at fX
                by_cases z2 : r2' = nI gl
                · rw [if_pos z2]
                  rw [decide_eq_true (w2.mp z2)] at fX
                  exact fX
                · rw [if_neg z2]
                  rw [decide_eq_false (fun q => z2 (w2.mpr q))] at fX
                  exact fX
              · rw [if_neg z1]
                show bd _ _ = _
                rw [i_al, f2, bd_i, nam_i]
                rw [decide_eq_false (fun q => z1 (w1.mpr q))] at fX
                by_cases z2 : r2' = nI gl
                · rw [if_pos z2]
                  rw [decide_eq_true (w2.mp z2)] at fX
                  exact fX
                · rw [if_neg z2]
                  rw [decide_eq_false (fun q => z2 (w2.mpr q))] at fX
                  exact fX
            · rw [F_X11_falls, hdt, bd_i, if_neg (by decide), m_cellt hgl', bd_i, if_neg (by decide), inb_i (by omega) (by omega), ck_i, nI_clamp (by omega), hkm, m_shut hk8, bd_i, if_neg hsh, if_pos rfl, inb_i (by omega) (by omega), ck_i, nI_clamp (by omega), hkgm, if_pos hg6]
              exact fM
          · refine Sim_same (r := -2) h ?_ ?_
            · rw [F_X10_falls, x_cellt hc', bd_i, if_neg (by decide), x_wayt hw', bd_i, if_neg (by decide), x_cellt hgl', bd_i, if_neg (by decide), x_openS hc' hk hk8, bd_i, if_neg hsh, if_neg (by decide), x_kindS KX_rfl hgl', bd_i, if_neg hg6]
            · rw [F_X11_falls, hdt, bd_i, if_neg (by decide), m_cellt hgl', bd_i, if_neg (by decide), inb_i (by omega) (by omega), ck_i, nI_clamp (by omega), hkm, m_shut hk8, bd_i, if_neg hsh, if_pos rfl, inb_i (by omega) (by omega), ck_i, nI_clamp (by omega), hkgm, if_neg hg6]
      · refine Sim_same (r := -1) h ?_ ?_
        · rw [F_X10_falls, x_cellt hc', bd_i, if_neg (by decide), x_wayt hw', bd_i, if_neg (by decide), x_cellf hd, bd_i, if_pos rfl]
        · rw [F_X11_falls, hdt, bd_i, if_neg (by decide), m_cellf hd, bd_i, if_pos rfl]
    · refine Sim_same (r := -1) h ?_ ?_
      · rw [F_X10_falls, x_cellt hc', bd_i, if_neg (by decide), x_wayf hb, bd_i, if_pos rfl]
      · rw [F_X11_falls, m_dtf (fun q => hb q.2.2), bd_i, if_pos rfl]
  · refine Sim_same (r := -1) h ?_ ?_
    · rw [F_X10_falls, x_cellf ha, bd_i, if_pos rfl]
    · rw [F_X11_falls, m_dtf (fun q => ha q.1), bd_i, if_pos rfl]
