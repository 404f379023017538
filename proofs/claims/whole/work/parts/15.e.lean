/-! a drop is set down -/
def addG (n : Nat) (c s w : Int32) (g : Nat → Int32) : Nat → Int32 := upd (upd (upd (upd (upd (upd (upd (upd g (96 + n) c) (108 + n) s) (120 + n) w) (132 + n) 0) (144 + n) (-4)) (156 + n) (-4)) 174 (g 174 + s)) 176 (nI (n + 1))
theorem add_at {n j : Nat} {c s w : Int32} {g : Nat → Int32} (h1 : j ≠ 96 + n) (h2 : j ≠ 108 + n) (h3 : j ≠ 120 + n) (h4 : j ≠ 132 + n) (h5 : j ≠ 144 + n) (h6 : j ≠ 156 + n) (h7 : j ≠ 174) (h8 : j ≠ 176) : addG n c s w g j = g j := by
  unfold addG
  rw [pk_un h8, pk_un h7, pk_un h6, pk_un h5, pk_un h4, pk_un h3, pk_un h2, pk_un h1]
theorem Eqv_add {n : Nat} {c s w : Int32} {g g' : Nat → Int32} (hE : Eqv n g g') (hn : n < 12) : Eqv (n + 1) (addG n c s w g) (addG n c s w g') := by
  intro j hj
  by_cases h0 : rl n j
  · have h174 : g' 174 = g 174 := hE.s (by omega) (by omega)
    unfold addG
    rw [h174]
    exact Eqv_upd (Eqv_upd (Eqv_upd (Eqv_upd (Eqv_upd (Eqv_upd (Eqv_upd (Eqv_upd hE rfl) rfl) rfl) rfl) rfl) rfl) rfl) rfl j h0
  · have hj2 : 96 ≤ j ∧ j < 168 ∧ (j - 96) % 12 = n := by
      rcases hj with q | q | q
      · exact absurd (Or.inl q) h0
      · refine ⟨q.1, q.2.1, ?_⟩
        by_cases z : (j - 96) % 12 < n
        · exact absurd (Or.inr (Or.inl ⟨q.1, q.2.1, z⟩)) h0
        · omega
      · exact absurd (Or.inr (Or.inr q)) h0
    have : j = 96 + n ∨ j = 108 + n ∨ j = 120 + n ∨ j = 132 + n ∨ j = 144 + n ∨ j = 156 + n := by omega
    unfold addG
    rcases this with rfl | rfl | rfl | rfl | rfl | rfl <;> simp (disch := omega) only [pk_un, pk_us]
theorem Gd_add {n c s w k : Nat} {g : Nat → Int32} (hG : Gd n g) (hn : n < 12) (hc : c < 96) (hs : 1 ≤ s) (hs2 : s ≤ 60) (hw : w < 4) (hk : g c = nI k) (hk8 : k < 8) (h5 : k ≠ 5) (h6 : k ≠ 6) (hno : fnd (pC g (nI c) (-4)) n 0 = none) : Gd (n + 1) (addG n (nI c) (nI s) (nI w) g) := by
  obtain ⟨g1, g2, g3, g4, g5, g6, g7⟩ := hG
  have hfree : ∀ d, d < n → g (132 + d) = 0 → g (96 + d) ≠ nI c := by
    intro d hd hg hcc
    have := fnd_none hno d (by omega) (by omega)
    have hne : ¬ nI d = -4 := by rw [i_nm4 (by omega)]; exact not_false
    simp only [pC, hne, hg, hcc, decide_true, decide_false, Bool.not_false, Bool.and_self, Bool.true_eq_false] at this
  have A : ∀ j, j ≠ 96 + n → j ≠ 108 + n → j ≠ 120 + n → j ≠ 132 + n → j ≠ 144 + n → j ≠ 156 + n → j ≠ 174 → j ≠ 176 → addG n (nI c) (nI s) (nI w) g j = g j := fun j h1 h2 h3 h4 h5 h6 h7 h8 => add_at h1 h2 h3 h4 h5 h6 h7 h8
  have n0 : addG n (nI c) (nI s) (nI w) g (96 + n) = nI c := by unfold addG; simp (disch := omega) only [pk_un, pk_us]
  have n1 : addG n (nI c) (nI s) (nI w) g (108 + n) = nI s := by unfold addG; simp (disch := omega) only [pk_un, pk_us]
  have n2 : addG n (nI c) (nI s) (nI w) g (120 + n) = nI w := by unfold addG; simp (disch := omega) only [pk_un, pk_us]
  have n3 : addG n (nI c) (nI s) (nI w) g (132 + n) = 0 := by unfold addG; simp (disch := omega) only [pk_un, pk_us]
  refine ⟨by omega, by unfold addG; rw [pk_us], ?_, ?_, ?_, ?_, ?_⟩
  · intro c' hc'
    rw [A c' (by omega) (by omega) (by omega) (by omega) (by omega) (by omega) (by omega) (by omega)]
    exact g3 c' hc'
  · rw [A 169 (by omega) (by omega) (by omega) (by omega) (by omega) (by omega) (by omega) (by omega)]; exact g4
  · rw [A 170 (by omega) (by omega) (by omega) (by omega) (by omega) (by omega) (by omega) (by omega)]; exact g5
  · intro d hd hg
    by_cases hdn : d = n
    · subst hdn
      refine ⟨⟨c, s, w, k, hc, n0, by omega, by omega, n1, hw, n2, ?_, hk8, h5, h6⟩, ?_⟩
      · rw [A c (by omega) (by omega) (by omega) (by omega) (by omega) (by omega) (by omega) (by omega), hk]
      · intro e he hne
        rw [A (132 + e) (by omega) (by omega) (by omega) (by omega) (by omega) (by omega) (by omega) (by omega), A (96 + e) (by omega) (by omega) (by omega) (by omega) (by omega) (by omega) (by omega) (by omega), n0]
        exact hfree e (by omega)
    · have hdn' : d < n := by omega
      rw [A (132 + d) (by omega) (by omega) (by omega) (by omega) (by omega) (by omega) (by omega) (by omega)] at hg
      obtain ⟨⟨c', s', w', k', a1, a2, a3, a4, a5, a6, a7, a8, a9⟩, b⟩ := g6 d hdn' hg
      refine ⟨⟨c', s', w', k', a1, ?_, a3, a4, ?_, a6, ?_, ?_, a9⟩, ?_⟩
      · rw [A (96 + d) (by omega) (by omega) (by omega) (by omega) (by omega) (by omega) (by omega) (by omega), a2]
      · rw [A (108 + d) (by omega) (by omega) (by omega) (by omega) (by omega) (by omega) (by omega) (by omega), a5]
      · rw [A (120 + d) (by omega) (by omega) (by omega) (by omega) (by omega) (by omega) (by omega) (by omega), a7]
      · rw [A c' (by omega) (by omega) (by omega) (by omega) (by omega) (by omega) (by omega) (by omega), a8]
      · intro e he hne hge
        rw [A (96 + d) (by omega) (by omega) (by omega) (by omega) (by omega) (by omega) (by omega) (by omega)]
        by_cases hen : e = n
        · subst hen
          rw [n0]
          exact fun z => hfree d hdn' hg z.symm
        · rw [A (132 + e) (by omega) (by omega) (by omega) (by omega) (by omega) (by omega) (by omega) (by omega)] at hge
          rw [A (96 + e) (by omega) (by omega) (by omega) (by omega) (by omega) (by omega) (by omega) (by omega)]
          exact b e (by omega) hne hge
  · rw [sm, sm_cong (f' := tz (addG n (nI c) (nI s) (nI w) g)) (f := tz g) (fun e he => by rw [tz, tz, A (132 + e) (by omega) (by omega) (by omega) (by omega) (by omega) (by omega) (by omega) (by omega), A (108 + e) (by omega) (by omega) (by omega) (by omega) (by omega) (by omega) (by omega) (by omega)])]
    have : tz (addG n (nI c) (nI s) (nI w) g) n = s := by rw [tz, n3, if_pos rfl, n1, nI_clamp (by omega)]
    omega
theorem x_open {q : Nat} {x : St} {g : Nat → Int32} {c k : Nat} (hc : c < 96) (hk : g c = nI k) (hk8 : k < 8) : F_X6_isOpen q (nI c) (px q x g) = some (if k = 5 ∨ k = 6 then 0 else 1, px q x g) := by
  rw [F_X6_isOpen, x_kind hc, bd_i, hk]
  by_cases h5 : k = 5
  · simp (disch := omega) only [i_eqr, h5, ↓reduceIte, true_or]
  · by_cases h6 : k = 6 <;> simp (disch := omega) only [i_eqr, h5, h6, ↓reduceIte, false_or, or_true, ite_self]
theorem m_shut {σ : St} {k : Nat} (hk8 : k < 8) : F_X11_isShut (nI k) σ = some (if k = 5 ∨ k = 6 then 1 else 0, σ) := by
  rw [F_X11_isShut]
  by_cases h5 : k = 5
  · simp (disch := omega) only [i_eqr, h5, ↓reduceIte, true_or]
  · by_cases h6 : k = 6 <;> simp (disch := omega) only [i_eqr, h5, h6, ↓reduceIte, false_or, or_true, ite_self]
theorem drop2 {n : Nat} {g g' : Nat → Int32} (hG : Gd n g) (hE : Eqv n g g') (c s w : Int32) :
    (∃ r, (r = -1 ∨ r = -2 ∨ r = -3) ∧ (∀ x, F_X10_setDown c s w (px 0 x g) = some (r, px 0 x g)) ∧ (∀ m, F_X11_drop c s w (pm m g') = some (r, pm m g'))) ∨
    (n < 12 ∧ (∀ x, F_X10_setDown c s w (px 0 x g) = some (nI n, px 0 x (addG n c s w g))) ∧ (∀ m, F_X11_drop c s w (pm m g') = some (nI n, pm m (addG n c s w g'))) ∧ Gd (n + 1) (addG n c s w g) ∧ Eqv (n + 1) (addG n c s w g) (addG n c s w g')) := by
  have h12 := hG.1
  have hG' := Gd_eqv hE hG
  have hn := hG.2.1
  have hn' := hG'.2.1
  by_cases hd : DT c s w
  · obtain ⟨⟨c, _, hc, rfl⟩, ⟨s, hs, hs2, rfl⟩, ⟨w, _, hw, rfl⟩⟩ := hd
    have hc' : c < 96 := by omega
    have hw' : w < 4 := by omega
    obtain ⟨k, hk8, hk⟩ := hG.2.2.1 c hc'
    have hk' : g' c = nI k := by rw [hE.c hc', hk]
    have hf : fnd (pC g' (nI c) (-4)) n 0 = fnd (pC g (nI c) (-4)) n 0 := fnd_cong (fun e _ he => by rw [pC, pC, hE.gone (by omega) h12, hE.at (by omega) h12])
    have i1 := fun x => x_inC (q := 0) (x := x) (c := nI c) hG.2.1 h12
    have i2 := fun m => m_inC (m := m) (c := nI c) (nt := -4) hG'.2.1 h12
    rw [hf] at i2
    have eM : ∀ m, F_X11_drop (nI c) (nI s) (nI w) (pm m g') = (bd (F_X11_isShut (nI k) (pm m g')) fun r6 σ5 => (if r6 = 0 then bd (F_X11_inCell (nI c) (-4 : Int32) σ5) fun r9 σ8 => (if r9 = (-4 : Int32) then ck (inb (176 : Int32) 576) ((if (σ8.1 (41, 0, 0) 176) = (12 : Int32) then some ((-3 : Int32), σ8) else ck (inb (176 : Int32) 576) (nam (σ8.1 (41, 0, 0) 176) fun x13 => ck (inb ((96 : Int32) + x13) 576) (nam (uI σ8 (41, 0, 0) (((96 : Int32) + x13).toNatClampNeg) (nI c)) fun σ15 => ck (inb ((108 : Int32) + x13) 576) (nam (uI σ15 (41, 0, 0) (((108 : Int32) + x13).toNatClampNeg) (nI s)) fun σ17 => ck (inb ((120 : Int32) + x13) 576) (nam (uI σ17 (41, 0, 0) (((120 : Int32) + x13).toNatClampNeg) (nI w)) fun σ19 => ck (inb ((132 : Int32) + x13) 576) (nam (uI σ19 (41, 0, 0) (((132 : Int32) + x13).toNatClampNeg) (0 : Int32)) fun σ21 => ck (inb ((144 : Int32) + x13) 576) (nam (uI σ21 (41, 0, 0) (((144 : Int32) + x13).toNatClampNeg) (-4 : Int32)) fun σ23 => ck (inb ((156 : Int32) + x13) 576) (nam (uI σ23 (41, 0, 0) (((156 : Int32) + x13).toNatClampNeg) (-4 : Int32)) fun σ25 => ck (inb (174 : Int32) 576) (ck (inb (174 : Int32) 576) (nam (uI σ25 (41, 0, 0) 174 ((σ25.1 (41, 0, 0) 174) + (nI s))) fun σ28 => ck (inb (176 : Int32) 576) (nam (uI σ28 (41, 0, 0) 176 (x13 + (1 : Int32))) fun σ30 => some (x13, σ30))))))))))))) else some ((-2 : Int32), σ8)) else some ((-2 : Int32), σ5))) := by
      intro m
      rw [F_X11_drop, m_dtt hc' hs hs2 hw', bd_i, if_neg (by decide), inb_i (by omega) (by omega), ck_i, nI_clamp (by omega), pm_r, hk']
    by_cases hsh : k = 5 ∨ k = 6
    · refine Or.inl ⟨-2, Or.inr (Or.inl rfl), ?_, ?_⟩
      · intro x
        rw [F_X10_setDown, x_dtt hc' hs hs2 hw', bd_i, if_neg (by decide), x_open hc' hk hk8, bd_i, if_pos hsh, if_pos rfl]
      · intro m
        rw [eM, m_shut hk8, bd_i, if_pos hsh, if_neg (by decide)]
    · cases hfe : fnd (pC g (nI c) (-4)) n 0 with
      | some e =>
        have he := fnd_some hfe
        have a4 : ¬ ans (some e) = -4 := by
          show ¬ nI e = -4
          rw [i_nm4 (by omega)]; exact not_false
        refine Or.inl ⟨-2, Or.inr (Or.inl rfl), ?_, ?_⟩
        · intro x
          rw [F_X10_setDown, x_dtt hc' hs hs2 hw', bd_i, if_neg (by decide), x_open hc' hk hk8, bd_i, if_neg hsh, if_neg (by decide), i1, hfe, bd_i, if_neg a4]
        · intro m
          rw [eM, m_shut hk8, bd_i, if_neg hsh, if_pos rfl, i2, hfe, bd_i, if_neg a4]
      | none =>
        have a4 : ans none = -4 := rfl
        by_cases h12' : n = 12
        · have e12 : ((12 : Int32) ≤ nI n) = True := by rw [i_lel (by decide) (by omega)]; exact eq_true (by omega)
          refine Or.inl ⟨-3, Or.inr (Or.inr rfl), ?_, ?_⟩
          · intro x
            rw [F_X10_setDown, x_dtt hc' hs hs2 hw', bd_i, if_neg (by decide), x_open hc' hk hk8, bd_i, if_neg hsh, if_neg (by decide), i1, hfe, bd_i, if_pos a4, px_s2, hn, if_pos (by rw [e12]; trivial)]
          · intro m
            rw [eM, m_shut hk8, bd_i, if_neg hsh, if_pos rfl, i2, hfe, bd_i, if_pos a4]
            simp (disch := omega) only [inb_l, ck_i, pm_r, hn', i_eqr, h12', ↓reduceIte]
        · have e12 : ¬ 12 ≤ n := by omega
          have e13 : n < 12 := by omega
          refine Or.inr ⟨e13, ?_, ?_, ?_, Eqv_add hE e13⟩
          · intro x
            rw [F_X10_setDown, x_dtt hc' hs hs2 hw', bd_i, if_neg (by decide), x_open hc' hk hk8, bd_i, if_neg hsh, if_neg (by decide), i1, hfe, bd_i, if_pos a4]
            simp (disch := omega) only [px_s2, hn, i_lel, e12, ↓reduceIte, F_X6_addDrop, i_ltr, e13, inb_i, ck_i, nI_clamp, F_X0_begin, nam_i, bd_i, pu_d0, pu_d1, pu_d2, pu_d3, pu_d4, pu_d5, pu_s10, px_s10, pu_s2, pk_un, pk_us, i_al, nI_pred]
            rfl
          · intro m
            rw [eM, m_shut hk8, bd_i, if_neg hsh, if_pos rfl, i2, hfe, bd_i, if_pos a4]
            simp (disch := omega) only [inb_l, inb_i, i_la, nI_clamp, ck_i, pm_r, hn', i_eqr, h12', ↓reduceIte, nam_i, pm_u, pk_un, pk_us, i_al]
            rfl
          · exact Gd_add hG e13 hc' hs hs2 hw' hk hk8 (fun z => hsh (Or.inl z)) (fun z => hsh (Or.inr z)) hfe
  · refine Or.inl ⟨-1, Or.inl rfl, ?_, ?_⟩
    · intro x
      rw [F_X10_setDown, x_dtf hd, bd_i, if_pos rfl]
    · intro m
      rw [F_X11_drop, m_dtf hd, bd_i, if_pos rfl]
theorem s_drop (c s w : Int32) : Sim (F_X10_drop c s w) (F_X11_drop c s w) := by
  intro x m h
  obtain ⟨n, g, g', ex, em, hG, hG', hE, rg, rg'⟩ := Rel_open h
  have hX : ∀ σ, F_X10_drop c s w σ = bd (F_X10_setDown c s w σ) fun r2 σ1 => some (r2, σ1) := fun σ => rfl
  rcases drop2 hG hE c s w with ⟨r, hr, e1, e2⟩ | ⟨hn, e1, e2, hGa, hEa⟩
  · have e1 := e1 x
    have e2 := e2 m
    rw [← ex] at e1
    rw [← em] at e2
    exact Sim_same h (by rw [hX, e1, bd_i]) e2
  · have e1 := e1 x
    have e2 := e2 m
    rw [← ex] at e1
    rw [← em] at e2
    exact Sim_scene h (by rw [hX, e1, bd_i]) e2 hGa hEa (fun j hj => by rw [add_at (by omega) (by omega) (by omega) (by omega) (by omega) (by omega) (by omega) (by omega), rg'])
