/-! alone, reach -/
theorem Rel_cells {x m : St} (h : Rel x m) : Gc (fx 0 x) ∧ (∀ j, j < 96 ∨ j = 169 ∨ j = 170 → m.1 (41, 0, 0) j = fx 0 x j) := by
  obtain ⟨n, hG, hE⟩ := h.2.2.2.1
  refine ⟨⟨hG.2.2.1, hG.2.2.2.1, hG.2.2.2.2.1⟩, ?_⟩
  intro j hj
  rcases hj with hj | rfl | rfl
  · exact hE.c hj
  · exact hE.s (by omega) (by omega)
  · exact hE.s (by omega) (by omega)
theorem x_openS {x : St} {c k : Nat} (hc : c < 96) (hk : fx 0 x c = nI k) (hk8 : k < 8) : F_X6_isOpen 0 (nI c) x = some (if k = 5 ∨ k = 6 then 0 else 1, x) := by
  have := x_open (q := 0) (x := x) (g := fx 0 x) hc hk hk8
  rw [px_fx] at this
  exact this
theorem s_alone (a b c d e : Int32) : Sim (F_X10_alone a b c d e) (F_X11_alone a b c d e) := by
  intro x m h
  have hR := h.2.2.1.2
  have hRe := h.2.2.1.1
  have hRm : RG (m.1 (43, 0, 0)) := by rw [hRe]; exact hR
  obtain ⟨hGc, hMc⟩ := Rel_cells h
  by_cases ha : DT a b c
  · obtain ⟨⟨c, _, hc, rfl⟩, ⟨s, hs, hs2, rfl⟩, ⟨w, _, hw, rfl⟩⟩ := id ha
    have hc' : c < 96 := by omega
    have hw' : w < 4 := by omega
    by_cases hd : IV 0 400 d
    · obtain ⟨T, _, T2, rfl⟩ := id hd
      by_cases he : IV 0 3 e
      · obtain ⟨y, _, y2, rfl⟩ := id he
        obtain ⟨k, hk8, hk⟩ := hGc.1 c hc'
        have hkm : m.1 (41, 0, 0) c = nI k := by rw [hMc c (Or.inl hc'), hk]
        by_cases hsh : k = 5 ∨ k = 6
        · refine Sim_same (r := -2) h ?_ ?_
          · rw [F_X10_alone, x_dtt hc' hs hs2 hw', bd_i, if_neg (by decide), x_wt (by omega) (by omega) (by omega), bd_i, if_neg (by decide), x_wt (by omega) (by omega) (by omega), bd_i, if_neg (by decide), x_openS hc' hk hk8, bd_i, if_pos hsh, if_pos rfl]
          · rw [F_X11_alone, m_dtt hc' hs hs2 hw', bd_i, if_neg (by decide), m_wt (by omega) (by omega) (by omega), bd_i, if_neg (by decide), m_wt (by omega) (by omega) (by omega), bd_i, if_neg (by decide), inb_i (by omega) (by omega), ck_i, nI_clamp (by omega), hkm, m_shut hk8, bd_i, if_pos hsh, if_neg (by decide)]
        · obtain ⟨g0, hg0, eB⟩ := x_begin (c := nI c) (s := nI s) (w := nI w) hGc.2.2
          have hGc0 : Gc g0 := ⟨fun c hc => by rw [hg0 c (Or.inl hc)]; exact hGc.1 c hc, by rw [hg0 169 (by omega)]; exact hGc.2.1, by rw [hg0 170 (by omega)]; exact hGc.2.2⟩
          have hG1 := Gd_fr (c := c) (s := s) (w := w) (k := k) hGc0 hc' hs hs2 hw' (by rw [hg0 c (Or.inl hc'), hk]) hk8 (fun q => hsh (Or.inl q)) (fun q => hsh (Or.inr q))
          have hA : Ag m (frG (nI c) (nI s) (nI w) g0) := ⟨fun c hc => by rw [hMc c (Or.inl hc), fr_lo (Or.inl hc), hg0 c (Or.inl hc)], by rw [hMc 169 (by omega), fr_lo (by omega), hg0 169 (by omega)], by rw [hMc 170 (by omega), fr_lo (by omega), hg0 170 (by omega)]⟩
          have h168 : frG (nI c) (nI s) (nI w) g0 168 = nI 0 := fr_d.2.2.2.2.2
          have e1 := x_runL (x := x13 x (nI c) (nI s) (nI w)) (by rw [x13_4]; exact hR) T2 T 0 FU _ (by omega) (by unfold FU; omega) hG1
          have e2 := fun kx => m_aloneL (m := m) (c5 := nI y) hRm T2 kx T 0 FU _ (by omega) (by unfold FU; omega) hG1 hA h168
          rw [x13_4] at e1
          rw [hRe] at e2
          generalize tk1 (x.1 (4, 0, 0)) T (frG (nI c) (nI s) (nI w) g0) = g2 at e1 e2
          refine Sim_scr (r := if nI y = 0 then g2 96 else if nI y = 1 then g2 108 else if nI y = 2 then g2 132 else g2 144) (x' := px 3 (x13 x (nI c) (nI s) (nI w)) g2) (m' := poG m g2) h ?_ ?_ (KX_px (by omega) KX_13) (KM_po KM_rfl)
          · have d0 : ∀ x g, (px 3 x g).1 (10, 3, 0) 0 = g 96 := fun x g => px_d0 (d := 0) (by omega)
            have d1 : ∀ x g, (px 3 x g).1 (10, 3, 0) 1 = g 108 := fun x g => px_d1 (d := 0) (by omega)
            have d3 : ∀ x g, (px 3 x g).1 (10, 3, 0) 3 = g 132 := fun x g => px_d3 (d := 0) (by omega)
            have d4 : ∀ x g, (px 3 x g).1 (10, 3, 0) 4 = g 144 := fun x g => px_d4 (d := 0) (by omega)
            have e1' : F_X2_runOn 0 (nI T) (px 3 (x13 x (nI c) (nI s) (nI w)) (frG (nI c) (nI s) (nI w) g0)) = some ((), px 3 (x13 x (nI c) (nI s) (nI w)) g2) := e1
            rw [F_X10_alone, x_dtt hc' hs hs2 hw', bd_i, if_neg (by decide), x_wt (by omega) (by omega) (by omega), bd_i, if_neg (by decide), x_wt (by omega) (by omega) (by omega), bd_i, if_neg (by decide), x_openS hc' hk hk8, bd_i, if_neg hsh, if_neg (by decide), eB, bd_i, e1', bd_i, d0, d1, d3, d4]
            split
            · rfl
            · split
              · rfl
              · split <;> rfl
          · rw [F_X11_alone, m_dtt hc' hs hs2 hw', bd_i, if_neg (by decide), m_wt (by omega) (by omega) (by omega), bd_i, if_neg (by decide), m_wt (by omega) (by omega) (by omega), bd_i, if_neg (by decide), inb_i (by omega) (by omega), ck_i, nI_clamp (by omega), hkm, m_shut hk8, bd_i, if_neg hsh, if_pos rfl, m_sets, bd_i, ← fr_po (g := g0)]
            refine (e2 _).trans ?_
            have p15 : (poG m g2).1 (40, 0, 0) 15 = g2 96 := po_15
            have p16 : (poG m g2).1 (40, 0, 0) 16 = g2 108 := po_16
            have p18 : (poG m g2).1 (40, 0, 0) 18 = g2 132 := po_18
            have p19 : (poG m g2).1 (40, 0, 0) 19 = g2 144 := po_19
            simp only [p15, p16, p18, p19]
            split
            · rfl
            · split
              · rfl
              · split <;> rfl
      · refine Sim_same (r := -1) h ?_ ?_
        · rw [F_X10_alone, x_dtt hc' hs hs2 hw', bd_i, if_neg (by decide), x_wt (by omega) (by omega) (by omega), bd_i, if_neg (by decide), x_wf he (by omega) (by omega), bd_i, if_pos rfl]
        · rw [F_X11_alone, m_dtt hc' hs hs2 hw', bd_i, if_neg (by decide), m_wt (by omega) (by omega) (by omega), bd_i, if_neg (by decide), m_wf he (by omega) (by omega), bd_i, if_pos rfl]
    · refine Sim_same (r := -1) h ?_ ?_
      · rw [F_X10_alone, x_dtt hc' hs hs2 hw', bd_i, if_neg (by decide), x_wf hd (by omega) (by omega), bd_i, if_pos rfl]
      · rw [F_X11_alone, m_dtt hc' hs hs2 hw', bd_i, if_neg (by decide), m_wf hd (by omega) (by omega), bd_i, if_pos rfl]
  · refine Sim_same (r := -1) h ?_ ?_
    · rw [F_X10_alone, x_dtf ha, bd_i, if_pos rfl]
    · rw [F_X11_alone, m_dtf ha, bd_i, if_pos rfl]
/-- after how many ticks the drop is at the goal -/
def rcN (R : Nat → Int32) (tg : Int32) : Nat → (Nat → Int32) → Option Nat
  | 0, _ => none
  | k + 1, g => if g 96 = tg then some 0 else if g 132 = 0 then (rcN R tg k (tickG R 0 1 g)).map (· + 1) else none
def mkT (R : Nat → Int32) (tg : Int32) : Nat → (Nat → Int32) → (Nat → Int32) → (Nat → Int32)
  | 0, _, a => a
  | k + 1, g, a => if g 96 = tg then upd a (g 96).toNatClampNeg 1 else if g 132 = 0 then mkT R tg k (tickG R 0 1 g) (upd a (g 96).toNatClampNeg 1) else upd a (g 96).toNatClampNeg 1
def rI (t : Nat) (o : Option Nat) : Int32 := match o with
  | none => -4
  | some T => nI (t + T)
theorem rI_map {t : Nat} {o : Option Nat} : rI t (o.map (· + 1)) = rI (t + 1) o := by
  cases o with
  | none => rfl
  | some T =>
    show nI (t + (T + 1)) = nI (t + 1 + T)
    congr 1
    omega
theorem lim_lt {K t : Nat} (hK : K ≤ 1000) (ht : t ≤ 1000) : (nI K - 1 < nI t) = (K ≤ t) := by
  apply propext
  rcases Nat.eq_zero_or_pos K with q | q
  · subst q
    have : nI 0 - 1 < nI t := by
      rw [Int32.lt_iff_toInt_lt, nI_toInt (by omega)]
      have : (nI 0 - 1).toInt = -1 := by decide
      omega
    exact ⟨fun _ => by omega, fun _ => this⟩
  · have e : nI K - 1 = nI (K - 1) := pk_sub (b := 1) q
    rw [e, i_lt (by omega) (by omega)]
    omega
theorem x_till {x : St} {K : Nat} {tg : Int32} (hR : RG (x.1 (4, 0, 0))) (hK : K ≤ 401) : ∀ (k t fu : Nat) (g mk : Nat → Int32), t + k = K → k < fu → Gd 1 g → InC g → ∃ g', L_X2_ticksTill_14 0 tg (nI K - 1) fu (nI t) (px 3 (uR x (14, 0, 0) mk) g) = some (rI t (rcN (x.1 (4, 0, 0)) tg k g), px 3 (uR x (14, 0, 0) (mkT (x.1 (4, 0, 0)) tg k g mk)) g') ∧ ∀ j, j < 96 ∨ j = 169 ∨ j = 170 → g' j = g j := by
  intro k
  induction k with
  | zero =>
    intro t fu g mk hk hf hG hI
    obtain ⟨f, rfl⟩ : ∃ f, fu = f + 1 := ⟨fu - 1, by omega⟩
    have z : nI K - 1 < nI t := by rw [lim_lt (by omega) (by omega)]; omega
    refine ⟨g, ?_, fun _ _ => rfl⟩
    simp only [L_X2_ticksTill_14, z, ↓reduceIte, rcN, mkT, rI]
  | succ k ih =>
    intro t fu g mk hk hf hG hI
    obtain ⟨f, rfl⟩ : ∃ f, fu = f + 1 := ⟨fu - 1, by omega⟩
    have z : ¬ nI K - 1 < nI t := by rw [lim_lt (by omega) (by omega)]; omega
    obtain ⟨c, hc, hce⟩ := hI
    have d0 : ∀ x g, (px 3 x g).1 (10, 3, 0) 0 = g 96 := fun x g => px_d0 (d := 0) (by omega)
    have d3 : ∀ x g, (px 3 x g).1 (10, 3, 0) 3 = g 132 := fun x g => px_d3 (d := 0) (by omega)
    have u : ∀ c v, ∀ g : Nat → Int32, uI (px 3 (uR x (14, 0, 0) mk) g) (14, 0, 0) c v = px 3 (uR x (14, 0, 0) (upd mk c v)) g := by
      intro c v g
      rw [px_un (ps_t (by omega) (by omega) (by omega)), uI_R, uR_R, uR_self]
    have n1 : ¬ (1 : Int32) = 0 := by decide
    have cl : (nI c).toNatClampNeg = c := nI_clamp (by omega)
    have r4 : ∀ mk, (uR x (14, 0, 0) mk).1 (4, 0, 0) = x.1 (4, 0, 0) := fun mk => rr_t (by omega)
    rw [rcN, mkT]
    by_cases h1 : g 96 = tg
    · refine ⟨g, ?_, fun _ _ => rfl⟩
      rw [if_pos h1, if_pos h1]
      rw [hce] at h1
      subst h1
      simp (disch := omega) only [L_X2_ticksTill_14.eq_2, z, ↓reduceIte, d0, hce, x_cellt hc, bd_i, nam_i, n1, inb_i, ck_i, u, cl, rI, Nat.add_zero]
    · rw [if_neg h1, if_neg h1]
      by_cases h2 : g 132 = 0
      · obtain ⟨g', a1, a2⟩ := ih (t + 1) f (tickG (x.1 (4, 0, 0)) 0 1 g) (upd mk c 1) (by omega) (by omega) (Gd_tick hR hG) (InC_tk hG hR ⟨c, hc, hce⟩)
        refine ⟨g', ?_, fun j hj => by rw [a2 j hj, tk_lo hj]⟩
        have hT := x_tick (q := 3) (r := 0) (x := uR x (14, 0, 0) (upd mk c 1)) (roll := 0) (g := g) (by rw [r4]; exact hR) hG
        rw [r4] at hT
        rw [if_pos h2, if_pos h2, rI_map, hce, cl, ← a1]
        rw [hce] at h1
        simp (disch := omega) only [L_X2_ticksTill_14.eq_2, z, ↓reduceIte, d0, d3, hce, x_cellt hc, bd_i, nam_i, n1, inb_i, ck_i, u, cl, h1, h2, hT, i_al]
      · refine ⟨g, ?_, fun _ _ => rfl⟩
        rw [if_neg h2, if_neg h2, hce, cl]
        rw [hce] at h1
        simp (disch := omega) only [L_X2_ticksTill_14.eq_2, z, ↓reduceIte, d0, d3, hce, x_cellt hc, bd_i, nam_i, n1, inb_i, ck_i, u, cl, h1, h2, rI]
theorem x_tillU {q : Nat} {tg c3 : Int32} {σ : St} : F_X2_ticksTill q tg c3 σ = L_X2_ticksTill_14 q tg c3 FU (nI 0) σ := by
  rw [F_X2_ticksTill, inb_l (by omega) (by omega), ck_i]
  rfl
theorem m_reachL {m : St} {tg : Int32} (hR : RG (m.1 (43, 0, 0))) : ∀ (k t fu : Nat) (g : Nat → Int32), t + k = 401 → k < fu → Gd 1 g → Ag m g → g 168 = nI t → (g 132 = 0 ∨ g 132 = 2 ∨ g 96 ≠ tg) → ∃ g', L_X11_reachOf_10 tg fu (nI t) (poG m g) = some (rI t (rcN (m.1 (43, 0, 0)) tg k g), poG m g') := by
  intro k
  induction k with
  | zero =>
    intro t fu g hk hf hG hA ht hi
    obtain ⟨f, rfl⟩ : ∃ f, fu = f + 1 := ⟨fu - 1, by omega⟩
    have z : 400 < t := by omega
    refine ⟨g, ?_⟩
    simp (disch := omega) only [L_X11_reachOf_10, i_ltl, z, ↓reduceIte, rcN, rI]
  | succ k ih =>
    intro t fu g hk hf hG hA ht hi
    obtain ⟨f, rfl⟩ : ∃ f, fu = f + 1 := ⟨fu - 1, by omega⟩
    have z : ¬ 400 < t := by omega
    have p15 : (poG m g).1 (40, 0, 0) 15 = g 96 := po_15
    have p18 : (poG m g).1 (40, 0, 0) 18 = g 132 := po_18
    rw [rcN]
    by_cases h1 : g 96 = tg
    · refine ⟨g, ?_⟩
      rw [if_pos h1]
      by_cases h2 : g 132 = 0
      · simp (disch := omega) only [L_X11_reachOf_10.eq_2, i_ltl, z, ↓reduceIte, p15, p18, h1, h2, rI, Nat.add_zero]
      · have h3 : g 132 = 2 := by
          rcases hi with q | q | q
          · exact absurd q h2
          · exact q
          · exact absurd h1 q
        have n2 : ¬ (2 : Int32) = 0 := by decide
        simp (disch := omega) only [L_X11_reachOf_10.eq_2, i_ltl, z, ↓reduceIte, p15, p18, h1, h3, n2, rI, Nat.add_zero]
    · rw [if_neg h1]
      by_cases h2 : g 132 = 0
      · have hk := (hG.2.2.2.2.2.1 0 (by omega) h2).1
        have e := tk_po (m := m) (R := m.1 (43, 0, 0)) (g := g)
        rw [if_pos h2] at e
        have hi' : tickG (m.1 (43, 0, 0)) 0 1 g 132 = 0 ∨ tickG (m.1 (43, 0, 0)) 0 1 g 132 = 2 ∨ tickG (m.1 (43, 0, 0)) 0 1 g 96 ≠ tg := by
          rw [tk_at (by omega), tk_at (by omega), if_pos h2, if_pos h2]
          rcases act_96 hk h2 hR with q | ⟨q, hq, q1, q2 | q2⟩
          · rw [q]; exact Or.inr (Or.inr h1)
          · exact Or.inl q2
          · exact Or.inr (Or.inl q2)
        obtain ⟨g', a1⟩ := ih (t + 1) f (tickG (m.1 (43, 0, 0)) 0 1 g) (by omega) (by omega) (Gd_tick hR hG) (Ag_tk hA) (by rw [tk_t, ht, i_al]) hi'
        refine ⟨g', ?_⟩
        rw [if_pos h2, rI_map, ← a1, e]
        simp (disch := omega) only [L_X11_reachOf_10.eq_2, i_ltl, z, ↓reduceIte, p15, p18, h1, h2, m_one hR hA hk h2 ht, bd_i, nam_i, i_al]
      · refine ⟨g, ?_⟩
        rw [if_neg h2]
        simp (disch := omega) only [L_X11_reachOf_10.eq_2, i_ltl, z, ↓reduceIte, p15, p18, h1, h2, rI]
theorem m_reachOf {m : St} {tg : Int32} {c s w k : Nat} {g0 : Nat → Int32} (hR : RG (m.1 (43, 0, 0))) (hA : Ag m g0) (hGc : Gc g0) (hc : c < 96) (hs : 1 ≤ s) (hs2 : s ≤ 60) (hw : w < 4) (hk : g0 c = nI k) (hk8 : k < 8) (hsh : ¬ (k = 5 ∨ k = 6)) : ∃ g', F_X11_reachOf (nI c) (nI s) (nI w) tg m = some (rI 0 (rcN (m.1 (43, 0, 0)) tg 401 (frG (nI c) (nI s) (nI w) g0)), poG m g') := by
  have hG1 := Gd_fr hGc hc hs hs2 hw hk hk8 (fun q => hsh (Or.inl q)) (fun q => hsh (Or.inr q))
  have hA1 : Ag m (frG (nI c) (nI s) (nI w) g0) := ⟨fun c hc => by rw [hA.1 c hc, fr_lo (Or.inl hc)], by rw [hA.2.1, fr_lo (by omega)], by rw [hA.2.2, fr_lo (by omega)]⟩
  obtain ⟨g', e⟩ := m_reachL (tg := tg) hR 401 0 FU _ (by omega) (by unfold FU; omega) hG1 hA1 fr_d.2.2.2.2.2 (Or.inl fr_d.2.2.2.1)
  refine ⟨g', ?_⟩
  rw [F_X11_reachOf, m_sets, bd_i, ← fr_po (g := g0)]
  exact e
theorem s_reach (a b c d : Int32) : Sim (F_X10_reach a b c d) (F_X11_reach a b c d) := by
  intro x m h
  have hR := h.2.2.1.2
  have hRe := h.2.2.1.1
  have hRm : RG (m.1 (43, 0, 0)) := by rw [hRe]; exact hR
  obtain ⟨hGc, hMc⟩ := Rel_cells h
  by_cases ha : DT a b c
  · obtain ⟨⟨c, _, hc, rfl⟩, ⟨s, hs, hs2, rfl⟩, ⟨w, _, hw, rfl⟩⟩ := id ha
    have hc' : c < 96 := by omega
    have hw' : w < 4 := by omega
    by_cases hd : IV 0 95 d
    · obtain ⟨T, _, T2, rfl⟩ := id hd
      obtain ⟨k, hk8, hk⟩ := hGc.1 c hc'
      have hkm : m.1 (41, 0, 0) c = nI k := by rw [hMc c (Or.inl hc'), hk]
      by_cases hsh : k = 5 ∨ k = 6
      · refine Sim_same (r := -2) h ?_ ?_
        · rw [F_X10_reach, x_dtt hc' hs hs2 hw', bd_i, if_neg (by decide), x_cellt (by omega), bd_i, if_neg (by decide), x_openS hc' hk hk8, bd_i, if_pos hsh, if_pos rfl]
        · rw [F_X11_reach, m_dtt hc' hs hs2 hw', bd_i, if_neg (by decide), m_cellt (by omega), bd_i, if_neg (by decide), inb_i (by omega) (by omega), ck_i, nI_clamp (by omega), hkm, m_shut hk8, bd_i, if_pos hsh, if_neg (by decide)]
      · obtain ⟨g0, hg0, eB⟩ := x_begin (c := nI c) (s := nI s) (w := nI w) hGc.2.2
        have hGc0 : Gc g0 := ⟨fun c hc => by rw [hg0 c (Or.inl hc)]; exact hGc.1 c hc, by rw [hg0 169 (by omega)]; exact hGc.2.1, by rw [hg0 170 (by omega)]; exact hGc.2.2⟩
        have hk0 : g0 c = nI k := by rw [hg0 c (Or.inl hc'), hk]
        have hG1 := Gd_fr (c := c) (s := s) (w := w) (k := k) hGc0 hc' hs hs2 hw' hk0 hk8 (fun q => hsh (Or.inl q)) (fun q => hsh (Or.inr q))
        have hA : Ag m g0 := ⟨fun c hc => by rw [hMc c (Or.inl hc), hg0 c (Or.inl hc)], by rw [hMc 169 (by omega), hg0 169 (by omega)], by rw [hMc 170 (by omega), hg0 170 (by omega)]⟩
        obtain ⟨g1, e1, _⟩ := x_till (x := x13 x (nI c) (nI s) (nI w)) (K := 401) (tg := nI T) (by rw [x13_4]; exact hR) (by omega) 401 0 FU _ ((x13 x (nI c) (nI s) (nI w)).1 (14, 0, 0)) (by omega) (by unfold FU; omega) hG1 ⟨c, hc', fr_d.1⟩
        obtain ⟨g2, e2⟩ := m_reachOf (m := m) (tg := nI T) hRm hA hGc0 hc' hs hs2 hw' hk0 hk8 hsh
        rw [x13_4, uR_id] at e1
        rw [hRe] at e2
        refine Sim_scr (r := rI 0 (rcN (x.1 (4, 0, 0)) (nI T) 401 (frG (nI c) (nI s) (nI w) g0))) (x' := px 3 (uR (x13 x (nI c) (nI s) (nI w)) (14, 0, 0) (mkT (x.1 (4, 0, 0)) (nI T) 401 (frG (nI c) (nI s) (nI w) g0) ((x13 x (nI c) (nI s) (nI w)).1 (14, 0, 0)))) g1) (m' := poG m g2) h ?_ ?_ (KX_px (by omega) (KX_R (Or.inr (Or.inr (Or.inr (Or.inl ⟨by omega, by omega⟩)))) KX_13)) (KM_po KM_rfl)
        · rw [show (nI 401 - 1 : Int32) = 400 from by decide] at e1
          rw [F_X10_reach, x_dtt hc' hs hs2 hw', bd_i, if_neg (by decide), x_cellt (by omega), bd_i, if_neg (by decide), x_openS hc' hk hk8, bd_i, if_neg hsh, if_neg (by decide), eB, bd_i, x_tillU, e1, bd_i]
        · rw [F_X11_reach, m_dtt hc' hs hs2 hw', bd_i, if_neg (by decide), m_cellt (by omega), bd_i, if_neg (by decide), inb_i (by omega) (by omega), ck_i, nI_clamp (by omega), hkm, m_shut hk8, bd_i, if_neg hsh, if_pos rfl, e2, bd_i]
    · refine Sim_same (r := -1) h ?_ ?_
      · rw [F_X10_reach, x_dtt hc' hs hs2 hw', bd_i, if_neg (by decide), x_cellf hd, bd_i, if_pos rfl]
      · rw [F_X11_reach, m_dtt hc' hs hs2 hw', bd_i, if_neg (by decide), m_cellf hd, bd_i, if_pos rfl]
  · refine Sim_same (r := -1) h ?_ ?_
    · rw [F_X10_reach, x_dtf ha, bd_i, if_pos rfl]
    · rw [F_X11_reach, m_dtf ha, bd_i, if_pos rfl]
