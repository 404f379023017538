/-! one drop's tick: the model's one, and the class's scene of one drop -/
theorem m_toothS {σ : St} {c : Nat} {s : Int32} (hc : c < 96) : F_X11_isTooth (nI c) s σ = some (if 4 ≤ σ.1 (41, 0, 0) c then 0 else if s < σ.1 (43, 0, 0) 2 then 0 else if σ.1 (43, 0, 0) 3 < s then 0 else 1, σ) := by
  have := m_toothE (m := σ) (g := σ.1 (41, 0, 0)) (s := s) hc
  rw [pm_self] at this
  exact this
theorem m_wallS {σ : St} {j : Nat} (hj : j < 96) : F_X11_isWall (nI j) σ = some (if σ.1 (41, 0, 0) j = 5 then 1 else 0, σ) := by
  have := m_wall (m := σ) (g := σ.1 (41, 0, 0)) hj
  rw [pm_self] at this
  exact this
def wy (R : Nat → Int32) (k s w : Int32) : Int32 := if 4 ≤ k then w else if s < R 2 then w else if R 3 < s then w else k
theorem wayv0 {R : Nat → Int32} {k s w sd : Int32} (hs : 0 < s) : wayv R 0 k s w sd = (wy R k s w, sd) := by
  unfold wayv wy
  rw [if_pos hs]
  split
  · rfl
  · split
    · rfl
    · split <;> rfl
theorem wy_in {R : Nat → Int32} {s : Int32} {k w : Nat} (hk : k < 8) (hw : w < 4) : ∃ j, j < 4 ∧ wy R (nI k) s (nI w) = nI j := by
  unfold wy
  split
  · exact ⟨w, hw, rfl⟩
  · rename_i h
    rw [i_lel (by decide) (by omega)] at h
    split
    · exact ⟨w, hw, rfl⟩
    · split
      · exact ⟨w, hw, rfl⟩
      · exact ⟨k, by omega, rfl⟩
/-- the model's cells are those of g -/
def Ag (m : St) (g : Nat → Int32) : Prop := (∀ c, c < 96 → m.1 (41, 0, 0) c = g c) ∧ m.1 (41, 0, 0) 169 = g 169 ∧ m.1 (41, 0, 0) 170 = g 170
theorem m_oneGo {m : St} {g : Nat → Int32} {c k w : Nat} {s e t t0 : Int32} (hA : Ag m g) (hc : c < 96) (hk : k < 8) (hgk : g c = nI k) (hw : w < 4) : F_X11_oneGoes t (po m (nI c) s (nI w) e t0) = some ((), if knd g (nx (nI c) (wy (m.1 (43, 0, 0)) (nI k) s (nI w))) = 5 then po m (nI c) s ((wy (m.1 (43, 0, 0)) (nI k) s (nI w) + 1) &&& 3) e t0 else if knd g (nx (nI c) (wy (m.1 (43, 0, 0)) (nI k) s (nI w))) = 6 then po m (nx (nI c) (wy (m.1 (43, 0, 0)) (nI k) s (nI w))) s (wy (m.1 (43, 0, 0)) (nI k) s (nI w)) 2 t else po m (nx (nI c) (wy (m.1 (43, 0, 0)) (nI k) s (nI w))) s (wy (m.1 (43, 0, 0)) (nI k) s (nI w)) e t0) := by
  obtain ⟨j, hj, hje⟩ := wy_in (R := m.1 (43, 0, 0)) (s := s) hk hw
  have e4 : decide (¬ (4 : Int32) = 0) = true := by decide
  have hgc : m.1 (41, 0, 0) c = nI k := by rw [hA.1 c hc, hgk]
  have rest : (bd (F_X11_nextTo (nI c) (nI j) (po m (nI c) s (nI w) e t0)) fun r8 σ7 => bd (F_X11_isWall r8 σ7) fun r11 σ10 => (if r11 = 0 then nam (uI σ10 (40, 0, 0) 15 r8) fun σ13 => nam (uI σ13 (40, 0, 0) 17 (nI j)) fun σ14 => ck (inb r8 576) ((if (σ14.1 (41, 0, 0) (r8.toNatClampNeg)) = (6 : Int32) then bd (F_X11_oneEnds (2 : Int32) t σ14) fun _ σ16 => some ((), σ16) else some ((), σ14))) else ck (decide (¬ (4 : Int32) = 0)) (nam (uI σ10 (40, 0, 0) 17 ((nI j + (1 : Int32)) - (nI j + (1 : Int32)) / (4 : Int32) * (4 : Int32))) fun σ20 => some ((), σ20)))) = some ((), if knd g (nx (nI c) (nI j)) = 5 then po m (nI c) s ((nI j + 1) &&& 3) e t0 else if knd g (nx (nI c) (nI j)) = 6 then po m (nx (nI c) (nI j)) s (nI j) 2 t else po m (nx (nI c) (nI j)) s (nI j) e t0) := by
    rw [m_next, nx_eq c hc j hj, bd_i]
    rcases nx_in c hc j hj with h | ⟨q, hq, h, hqc⟩
    · rw [h, m_wall4, bd_i, if_neg (by decide), if_pos (by rfl), e4, ck_i, nam_i, pq_17, rot j hj]
    · have hkn : knd g (nI q) = g q := by
        rw [knd, if_neg (by rw [i_nm4 (by omega)]; exact not_false), nI_clamp (by omega)]
      have hq4 : (po m (nI c) s (nI w) e t0).1 (41, 0, 0) q = g q := by rw [po_t (by omega), hA.1 q hq]
      rw [h, m_wallS hq, bd_i, hkn, hq4]
      by_cases h5 : g q = 5
      · rw [if_pos h5, if_neg (by decide), if_pos h5, e4, ck_i, nam_i, pq_17, rot j hj]
      · rw [if_neg h5, if_pos rfl, if_neg h5, nam_i, nam_i, pq_15, pq_17, inb_i (by omega) (by omega), ck_i, nI_clamp (by omega), po_t (by omega), hA.1 q hq, m_oneEnds, bd_i]
        split <;> rfl
  have y : F_X11_oneGoes t (po m (nI c) s (nI w) e t0) = (bd (F_X11_nextTo (nI c) (nI j) (po m (nI c) s (nI w) e t0)) fun r8 σ7 => bd (F_X11_isWall r8 σ7) fun r11 σ10 => (if r11 = 0 then nam (uI σ10 (40, 0, 0) 15 r8) fun σ13 => nam (uI σ13 (40, 0, 0) 17 (nI j)) fun σ14 => ck (inb r8 576) ((if (σ14.1 (41, 0, 0) (r8.toNatClampNeg)) = (6 : Int32) then bd (F_X11_oneEnds (2 : Int32) t σ14) fun _ σ16 => some ((), σ16) else some ((), σ14))) else ck (decide (¬ (4 : Int32) = 0)) (nam (uI σ10 (40, 0, 0) 17 ((nI j + (1 : Int32)) - (nI j + (1 : Int32)) / (4 : Int32) * (4 : Int32))) fun σ20 => some ((), σ20)))) := by
    rw [F_X11_oneGoes, po_15, po_16, m_toothS hc, bd_i, nam_i]
    rw [po_t (by omega), po_t (by omega), hgc]
    unfold wy at hje
    by_cases h4 : (4 : Int32) ≤ nI k
    · rw [if_pos h4] at hje
      rw [if_pos h4, if_pos rfl, po_17, hje]; show bd _ _ = _; rw [po_15]
    · rw [if_neg h4] at hje ⊢
      by_cases h2 : s < m.1 (43, 0, 0) 2
      · rw [if_pos h2] at hje
        rw [if_pos h2, if_pos rfl, po_17, hje]; show bd _ _ = _; rw [po_15]
      · rw [if_neg h2] at hje ⊢
        by_cases h3 : m.1 (43, 0, 0) 3 < s
        · rw [if_pos h3] at hje
          rw [if_pos h3, if_pos rfl, po_17, hje]; show bd _ _ = _; rw [po_15]
        · rw [if_neg h3] at hje
          rw [if_neg h3, if_neg (by decide), po_15, inb_i (by omega) (by omega), ck_i, nI_clamp (by omega), hgc, hje]; show bd _ _ = _; rw [po_15]
  rw [hje, y, rest]
theorem fnd_self {g : Nat → Int32} {to : Int32} : fnd (pC g to (nI 0)) 1 0 = none := by
  apply fnd_no
  intro e h1 h2
  have : e = 0 := by omega
  subst this
  simp only [pC, decide_true, Bool.not_true, Bool.false_and]
theorem poG_step {m : St} {g : Nat → Int32} {sd y to : Int32} : poG m (stepG 1 0 g sd y to) = if knd g to = 5 then po m (g 96) (g 108) ((y + 1) &&& 3) (g 132) (g 144) else if knd g to = 6 then po m to (g 108) y 2 (g 168) else po m to (g 108) y (g 132) (g 144) := by
  unfold stepG
  rw [fnd_self]
  by_cases h5 : knd g to = 5
  · rw [if_pos h5, if_pos h5]
    simp (disch := omega) only [poG, pk_un, pk_us, Nat.add_zero]
  · rw [if_neg h5, if_neg h5]
    by_cases h6 : knd g to = 6
    · rw [if_pos h6, if_pos h6]
      simp (disch := omega) only [poG, endD, pk_un, pk_us, Nat.add_zero]
    · rw [if_neg h6, if_neg h6]
      simp (disch := omega) only [poG, joinG, pk_un, pk_us, Nat.add_zero]
theorem poG_lose {m : St} {g : Nat → Int32} {z : Int32} : poG m (lose 0 z g) = if g 108 - z = 0 then po m (g 96) (g 108 - z) (g 120) 1 (g 168) else po m (g 96) (g 108 - z) (g 120) (g 132) (g 144) := by
  unfold lose
  rw [Nat.add_zero]
  by_cases h : g 108 - z = 0
  · rw [if_pos h, if_pos h]
    simp (disch := omega) only [poG, endD, pk_un, pk_us, Nat.add_zero]
  · rw [if_neg h, if_neg h]
    simp (disch := omega) only [poG, pk_un, pk_us, Nat.add_zero]
theorem m_one {m : St} {g : Nat → Int32} {t : Int32} (hR : RG (m.1 (43, 0, 0))) (hA : Ag m g) (hk : dok g 0) (h0 : g 132 = 0) (ht : g 168 = t) : F_X11_oneActs t (poG m g) = some ((), poG m (actD (m.1 (43, 0, 0)) 0 1 0 g)) := by
  obtain ⟨c, s, w, k, a1, a2, a3, a4, a5, a6, a7, a8, a9, a10, a11⟩ := hk
  obtain ⟨j6, b1, b2, b3⟩ := hR.2.2.2.2.2.1
  obtain ⟨j7, d1, d2, d3⟩ := hR.2.2.2.2.2.2.1
  rw [Nat.add_zero] at a2 a5 a7
  have hcc : (nI c).toNatClampNeg = c := nI_clamp (by omega)
  have h6 : ∀ c s w e t, ¬ (po m c s w e t).1 (43, 0, 0) 6 = 0 := fun c s w e t => by rw [po_t (by omega), b3]; exact nI_ne0 (by omega) (by omega)
  have h7 : ∀ c s w e t, ¬ (po m c s w e t).1 (43, 0, 0) 7 = 0 := fun c s w e t => by rw [po_t (by omega), d3]; exact nI_ne0 (by omega) (by omega)
  have eg : poG m g = po m (nI c) (g 108) (nI w) 0 (g 144) := by rw [poG, a2, a7, h0]
  have hkc : m.1 (41, 0, 0) c = g c := hA.1 c a1
  unfold actD
  rw [Nat.add_zero, Nat.add_zero, Nat.add_zero, a2, hcc, eg]
  by_cases hz : g 170 = 0 ∨ g c = 7
  · rw [if_pos hz, poG_lose, a2, a7, h0, ht]
    have tail : (bd (F_X11_hisses (g 108) (g 169) (po m (nI c) (g 108) (nI w) 0 (g 144))) fun r4 σ3 => nam (uI σ3 (40, 0, 0) 16 (g 108 - r4)) fun σ6 => (if (σ6.1 (40, 0, 0) 16) = 0 then bd (F_X11_oneEnds (1 : Int32) t σ6) fun _ σ7 => some ((), σ7) else some ((), σ6))) = some ((), if g 108 - hss (m.1 (43, 0, 0)) (g 108) (g 169) = 0 then po m (nI c) (g 108 - hss (m.1 (43, 0, 0)) (g 108) (g 169)) (nI w) 1 t else po m (nI c) (g 108 - hss (m.1 (43, 0, 0)) (g 108) (g 169)) (nI w) 0 (g 144)) := by
      rw [m_hisses (h6 _ _ _ _ _), bd_i, nam_i, pq_16, po_16, po_t (by omega), m_oneEnds, bd_i]
      split <;> rfl
    by_cases hz2 : g 170 = 0
    · rw [F_X11_oneActs]
      simp (disch := omega) only [inb_l, ck_i, po_t, hA.2.2, hA.2.1, hz2, ↓reduceIte, po_16]
      exact tail
    · have hz3 : g c = 7 := by rcases hz with h | h; exact absurd h hz2; exact h
      rw [F_X11_oneActs]
      simp (disch := omega) only [inb_l, inb_i, ck_i, po_t, hA.2.2, hA.2.1, hz2, ↓reduceIte, po_16, po_15, nI_clamp, hkc, hz3]
      exact tail
  · have hz2 : ¬ g 170 = 0 := fun h => hz (Or.inl h)
    have hz3 : ¬ g c = 7 := fun h => hz (Or.inr h)
    obtain ⟨z, hzz, hze⟩ := thn_n (R := m.1 (43, 0, 0)) (t := g 168) a4
    rw [if_neg hz, nam_i]
    generalize hg1 : lose 0 (thn (m.1 (43, 0, 0)) (g 108) (g 168)) g = g1
    have L := poG_lose (m := m) (g := g) (z := thn (m.1 (43, 0, 0)) (g 108) (g 168))
    have k1 : g1 96 = nI c := by rw [← hg1, lose_at (by omega) (by omega) (by omega) (by omega), a2]
    have k2 : g1 c = nI k := by rw [← hg1, lose_at (by omega) (by omega) (by omega) (by omega), a8]
    have k3 : g1 120 = nI w := by rw [← hg1, lose_at (by omega) (by omega) (by omega) (by omega), a7]
    have k5 : g1 168 = t := by rw [← hg1, lose_at (by omega) (by omega) (by omega) (by omega), ht]
    have kc : ∀ c, c < 96 → g1 c = g c := fun c hc => by rw [← hg1, lose_at (by omega) (by omega) (by omega) (by omega)]
    have hA1 : Ag m g1 := ⟨fun c hc => by rw [kc c hc, hA.1 c hc], by rw [← hg1, lose_at (by omega) (by omega) (by omega) (by omega), hA.2.1], by rw [← hg1, lose_at (by omega) (by omega) (by omega) (by omega), hA.2.2]⟩
    have k6 : g1 108 = g 108 - thn (m.1 (43, 0, 0)) (g 108) (g 168) := by
      rw [← hg1]
      unfold lose endD
      rw [Nat.add_zero]
      split <;> simp (disch := omega) only [pk_un, pk_us, Nat.add_zero]
    have k7 : g1 108 = nI (s - z) := by rw [k6, a5, hze, pk_sub hzz]
    rw [hg1] at L
    rw [F_X11_oneActs]
    simp (disch := first | omega | exact h7 _ _ _ _ _) only [inb_l, inb_i, ck_i, po_t, hA.2.2, hA.2.1, hz2, ↓reduceIte, po_16, po_15, nI_clamp, hkc, hz3, m_thins, bd_i, nam_i, pq_16, ← ht, ← k6]
    rw [← k6] at L
    by_cases q1 : g1 108 = 0
    · have q2 : ¬ g1 132 = 0 := by
        rw [← hg1]
        unfold lose
        rw [Nat.add_zero, ← k6, if_pos q1]
        simp (disch := omega) only [endD, pk_un, pk_us, Nat.add_zero]
        decide
      rw [if_pos q1] at L
      rw [if_pos q1, m_oneEnds, bd_i, if_neg q2, L, a2, a7]
    · have q2 : g1 132 = 0 := by
        rw [← hg1]
        unfold lose
        rw [Nat.add_zero, ← k6, if_neg q1]
        simp (disch := omega) only [pk_un, Nat.add_zero]
        exact h0
      have q3 : g1 144 = g 144 := by
        rw [← hg1]
        unfold lose
        rw [Nat.add_zero, ← k6, if_neg q1]
        simp (disch := omega) only [pk_un, Nat.add_zero]
      have q0 : 0 < g1 108 := by
        rw [k7] at q1 ⊢
        have : s - z ≠ 0 := fun e => q1 (by rw [e]; rfl)
        exact nI_lt (a := 0) (by omega) (by omega)
      rw [if_neg q1, if_pos q2]
      by_cases q4 : m.1 (43, 0, 0) 4 < g1 108
      · rw [if_pos q4, if_pos q4, m_oneGo hA1 a1 a9 k2 a6, bd_i, goOn, nam_i, Nat.add_zero, Nat.add_zero, Nat.add_zero, k1, hcc, k2, k3, wayv0 q0, poG_step, k1, q2, q3, ht, k5]
      · rw [if_neg q4, if_neg q4, m_oneEnds, bd_i, ht]
        simp (disch := omega) only [poG, endD, pk_un, pk_us, Nat.add_zero, k1, k3, k5]
