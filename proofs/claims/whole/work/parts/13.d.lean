/-! one drop's tick on the flat row: both classes -/
def knd (g : Nat → Int32) (c : Int32) : Int32 := if c = -4 then 5 else g c.toNatClampNeg
theorem x_kind {q : Nat} {x : St} {g : Nat → Int32} {c : Nat} (h : c < 96) : F_X6_kindAt q (nI c) (px q x g) = some (g c, px q x g) := by
  have h1 : ¬ nI c < 0 := nI_pos (by omega)
  have h2 : ¬ 96 ≤ c := by omega
  simp (disch := omega) only [F_X6_kindAt, h1, i_lel, h2, ↓reduceIte, inb_i, ck_i, nI_clamp, px_c]
theorem x_kind4 {q : Nat} {σ : St} : F_X6_kindAt q (-4) σ = some (5, σ) := rfl
theorem m_less (a b : Int32) (σ : St) : F_X11_less a b σ = some (lessI a b, σ) := by
  unfold F_X11_less lessI
  split <;> rfl
def thn (R : Nat → Int32) (s t : Int32) : Int32 := if t - t / R 7 * R 7 = 0 then lessI s (if s < R 5 then 1 else 2) else 0
def hss (R : Nat → Int32) (s h : Int32) : Int32 := lessI s (1 + h / R 6)
theorem m_thins {σ : St} (h7 : ¬ σ.1 (43, 0, 0) 7 = 0) (s t : Int32) : F_X11_thins s t σ = some (thn (σ.1 (43, 0, 0)) s t, σ) := by
  by_cases h : t - t / σ.1 (43, 0, 0) 7 * σ.1 (43, 0, 0) 7 = 0
  · by_cases h2 : s < σ.1 (43, 0, 0) 5 <;> simp (disch := omega) only [F_X11_thins, inb_l, ck_i, h7, not_false_eq_true, decide_true, nam_i, bd_i, m_less, thn, h, h2, ↓reduceIte]
  · simp (disch := omega) only [F_X11_thins, inb_l, ck_i, h7, not_false_eq_true, decide_true, nam_i, bd_i, m_less, thn, h, ↓reduceIte]
theorem m_hisses {σ : St} (h6 : ¬ σ.1 (43, 0, 0) 6 = 0) (s t : Int32) : F_X11_hisses s t σ = some (hss (σ.1 (43, 0, 0)) s t, σ) := by
  simp (disch := omega) only [F_X11_hisses, inb_l, ck_i, h6, not_false_eq_true, decide_true, bd_i, m_less, hss]
def drw (v : Int32) : Int32 := v * 1103515245 + 12345
def drv (v : Int32) : Int32 := (v >>> ((16 : Int32) &&& 31)) &&& 3
theorem drv_in (v : Int32) : ∃ j, j < 4 ∧ drv v = nI j := pk_andE _ 2 (by decide)
theorem drv_u (v : Int32) : ((v.toUInt32 >>> ((16 : Int32).toUInt32 &&& Int32.toUInt32 31)).toInt32) &&& (3 : Int32) = drv v := by
  unfold drv
  rw [pk_and _ 2 (by decide), pk_and _ 2 (by decide), pk_ushr v 16 16 (by decide)]
  congr 1
  have e := pk_shr v ((16 : Int32) &&& 31) 16 (by decide)
  generalize hz : v >>> ((16 : Int32) &&& 31) = z at e ⊢
  have a1 : z.toInt = z.toBitVec.toInt := rfl
  have a2 : v.toInt = v.toBitVec.toInt := rfl
  rw [a1, a2, Int.shiftRight_eq_div_pow] at e
  have b1 := BitVec.toInt_eq_toNat_cond z.toBitVec
  have b2 := BitVec.toInt_eq_toNat_cond v.toBitVec
  have c1 := z.toBitVec.isLt
  have c2 := v.toBitVec.isLt
  generalize z.toBitVec.toNat = zn at *
  generalize v.toBitVec.toNat = vn at *
  split at b1 <;> split at b2 <;> omega
def tth (R : Nat → Int32) (k s : Int32) : Prop := ¬ 4 ≤ k ∧ ¬ s < R 2 ∧ ¬ R 3 < s
def wayv (R : Nat → Int32) (roll k s w sd : Int32) : Int32 × Int32 :=
  if 4 ≤ k then (if roll < s then (w, sd) else (drv (drw sd), drw sd)) else if s < R 2 then (w, sd) else if R 3 < s then (w, sd) else (k, sd)
theorem wayv_in {R : Nat → Int32} {roll s sd : Int32} {k w : Nat} (hk : k < 8) (hw : w < 4) : ∃ j, j < 4 ∧ (wayv R roll (nI k) s (nI w) sd).1 = nI j := by
  unfold wayv
  split
  · split
    · exact ⟨w, hw, rfl⟩
    · exact drv_in _
  · rename_i h
    rw [i_lel (by decide) (by omega)] at h
    split
    · exact ⟨w, hw, rfl⟩
    · split
      · exact ⟨w, hw, rfl⟩
      · exact ⟨k, by omega, rfl⟩
def joinG (g g2 : Nat → Int32) (d : Nat) (o : Option Nat) : Nat → Int32 := match o with
  | none => g2
  | some e => endD d 4 (upd (upd g2 (108 + e) (g (108 + e) + g (108 + d))) (156 + d) (nI e))
def stepG (n d : Nat) (g : Nat → Int32) (sd w to : Int32) : Nat → Int32 :=
  if knd g to = 5 then upd (upd g 175 sd) (120 + d) ((w + 1) &&& 3)
  else if knd g to = 6 then endD d 2 (upd (upd (upd (upd g 175 sd) (96 + d) to) (120 + d) w) 172 (g 172 + g (108 + d)))
  else joinG g (upd (upd (upd g 175 sd) (96 + d) to) (120 + d) w) d (fnd (pC g to (nI d)) n 0)
def goOn (R : Nat → Int32) (roll : Int32) (n d : Nat) (g : Nat → Int32) : Nat → Int32 :=
  nam (wayv R roll (g (g (96 + d)).toNatClampNeg) (g (108 + d)) (g (120 + d)) (g 175)) fun wv => stepG n d g wv.2 wv.1 (nx (g (96 + d)) wv.1)
theorem rot : ∀ j, j < 4 → (nI j + 1) - (nI j + 1) / 4 * 4 = (nI j + 1) &&& (3 : Int32) := by decide
theorem m_toothE {m : St} {g : Nat → Int32} {c : Nat} {s : Int32} (hc : c < 96) : F_X11_isTooth (nI c) s (pm m g) = some (if 4 ≤ g c then 0 else if s < m.1 (43, 0, 0) 2 then 0 else if m.1 (43, 0, 0) 3 < s then 0 else 1, pm m g) := by
  by_cases h : 4 ≤ g c
  · simp (disch := omega) only [F_X11_isTooth, inb_i, ck_i, nI_clamp, pm_r, h, ↓reduceIte]
  · by_cases h2 : s < m.1 (43, 0, 0) 2
    · simp (disch := omega) only [F_X11_isTooth, inb_i, inb_l, ck_i, nI_clamp, pm_r, pm_t, m_inE, h, h2, ↓reduceIte, bd_i]
    · by_cases h3 : m.1 (43, 0, 0) 3 < s <;> simp (disch := omega) only [F_X11_isTooth, inb_i, inb_l, ck_i, nI_clamp, pm_r, pm_t, m_inE, h, h2, h3, ↓reduceIte, bd_i, ft10]
theorem m_draws {m : St} {g : Nat → Int32} : F_X11_draws (pm m g) = some (drv (drw (g 175)), pm m (upd g 175 (drw (g 175)))) := by
  simp (disch := omega) only [F_X11_draws, inb_l, ck_i, nam_i, pm_r, pm_u, pk_us, drv, drw]
theorem m_wall4 {σ : St} : F_X11_isWall (-4) σ = some (1, σ) := rfl
theorem m_wall {m : St} {g : Nat → Int32} {j : Nat} (hj : j < 96) : F_X11_isWall (nI j) (pm m g) = some (if g j = 5 then 1 else 0, pm m g) := by
  have h : ¬ nI j = -4 := by rw [i_nm4 (by omega)]; exact not_false
  by_cases h2 : g j = 5 <;> simp (disch := omega) only [F_X11_isWall, h, ↓reduceIte, inb_i, ck_i, nI_clamp, pm_r, h2]
/-- M's way to the next step, as a name -/
def restM (d : Nat) (cI : Int32) (s : Int32) (y8 : Int32) (σ10 : St) : Option (Unit × St) :=
  bd (F_X11_nextTo cI y8 σ10) fun r12 σ11 => bd (F_X11_isWall r12 σ11) fun r15 σ14 => (if r15 = 0 then bd (F_X11_inCell r12 (nI d) σ14) fun r18 σ17 => ck (inb ((96 : Int32) + (nI d)) 576) (nam (uI σ17 (41, 0, 0) (((96 : Int32) + (nI d)).toNatClampNeg) r12) fun σ21 => ck (inb ((120 : Int32) + (nI d)) 576) (nam (uI σ21 (41, 0, 0) (((120 : Int32) + (nI d)).toNatClampNeg) y8) fun σ23 => ck (inb r12 576) ((if (σ23.1 (41, 0, 0) (r12.toNatClampNeg)) = (6 : Int32) then ck (inb (172 : Int32) 576) (ck (inb (172 : Int32) 576) (nam (uI σ23 (41, 0, 0) 172 ((σ23.1 (41, 0, 0) 172) + s)) fun σ35 => bd (F_X11_ends (nI d) (2 : Int32) σ35) fun _ σ36 => some ((), σ36))) else (if r18 = (-4 : Int32) then some ((), σ23) else ck (inb ((108 : Int32) + r18) 576) (ck (inb ((108 : Int32) + r18) 576) (nam (uI σ23 (41, 0, 0) (((108 : Int32) + r18).toNatClampNeg) ((σ23.1 (41, 0, 0) (((108 : Int32) + r18).toNatClampNeg)) + s)) fun σ27 => ck (inb ((156 : Int32) + (nI d)) 576) (nam (uI σ27 (41, 0, 0) (((156 : Int32) + (nI d)).toNatClampNeg) r18) fun σ29 => bd (F_X11_ends (nI d) (4 : Int32) σ29) fun _ σ30 => some ((), σ30))))))))) else ck (decide (¬ (4 : Int32) = 0)) (ck (inb ((120 : Int32) + (nI d)) 576) (nam (uI σ14 (41, 0, 0) (((120 : Int32) + (nI d)).toNatClampNeg) ((y8 + (1 : Int32)) - (y8 + (1 : Int32)) / (4 : Int32) * (4 : Int32))) fun σ41 => some ((), σ41))))
theorem m_rest {m : St} {g : Nat → Int32} {n d c j : Nat} {s sd : Int32} (hn : g 176 = nI n) (h12 : n ≤ 12) (hd : d < 12) (hc : c < 96) (hj : j < 4) (hs : g (108 + d) = s) : restM d (nI c) s (nI j) (pm m (upd g 175 sd)) = some ((), pm m (stepG n d g sd (nI j) (nx (nI c) (nI j)))) := by
  have e4 : decide (¬ (4 : Int32) = 0) = true := by decide
  unfold restM stepG
  rw [m_next, nx_eq c hc j hj, bd_i]
  rcases nx_in c hc j hj with h | ⟨t, ht, h, htc⟩
  · rw [h, m_wall4, bd_i, if_neg (by decide), if_pos (by rfl)]
    simp (disch := omega) only [e4, ck_i, i_la, inb_i, nI_clamp, nam_i, pm_u, rot j hj]
  · have hk : knd g (nI t) = g t := by
      rw [knd, if_neg (by rw [i_nm4 (by omega)]; exact not_false), nI_clamp (by omega)]
    have hn' : (upd g 175 sd) 176 = nI n := by rw [pk_un (by omega), hn]
    rw [h, m_wall ht, bd_i, hk, pk_un (by omega)]
    by_cases h5 : g t = 5
    · rw [if_pos h5, if_neg (by decide), if_pos h5]
      simp (disch := omega) only [e4, ck_i, i_la, inb_i, nI_clamp, nam_i, pm_u, rot j hj]
    · rw [if_neg h5, if_pos rfl, if_neg h5, m_inC hn' h12, bd_i]
      have hf : fnd (pC (upd g 175 sd) (nI t) (nI d)) n 0 = fnd (pC g (nI t) (nI d)) n 0 := fnd_cong (fun i h1 h2 => by rw [pC, pC, pk_un (by omega), pk_un (by omega)])
      rw [hf]
      by_cases h6 : g t = 6
      · simp (disch := omega) only [ck_i, i_la, inb_i, inb_l, nI_clamp, nam_i, bd_i, pm_u, pm_r, pk_un, pk_us, h6, ↓reduceIte, m_ends, hs]
      · cases hfe : fnd (pC g (nI t) (nI d)) n 0 with
        | none => simp (disch := omega) only [ck_i, i_la, inb_i, inb_l, nI_clamp, nam_i, bd_i, pm_u, pm_r, pk_un, pk_us, h6, ↓reduceIte, ans, joinG]
        | some e =>
          have he := fnd_some hfe
          have hed : e < 12 := by omega
          have hne : ¬ nI e = -4 := by rw [i_nm4 (by omega)]; exact not_false
          simp (disch := omega) only [ck_i, i_la, inb_i, inb_l, nI_clamp, nam_i, bd_i, pm_u, pm_r, pk_un, pk_us, h6, ↓reduceIte, m_ends, hs, ans, hne, joinG]
theorem goesOn_u (d : Nat) (σ : St) : F_X11_goesOn (nI d) σ = ck (inb ((96 : Int32) + nI d) 576) (nam (σ.1 (41, 0, 0) (((96 : Int32) + nI d).toNatClampNeg)) fun x2 => ck (inb ((108 : Int32) + nI d) 576) (nam (σ.1 (41, 0, 0) (((108 : Int32) + nI d).toNatClampNeg)) fun x4 => bd (F_X11_isTooth x2 x4 σ) fun r6 σ5 => (if r6 = 0 then ck (inb (8 : Int32) 9) ((if (σ5.1 (43, 0, 0) 8) < x4 then ck (inb ((120 : Int32) + nI d) 576) (restM d x2 x4 (σ5.1 (41, 0, 0) (((120 : Int32) + nI d).toNatClampNeg)) σ5) else ck (inb x2 576) ((if (σ5.1 (41, 0, 0) (x2.toNatClampNeg)) < (4 : Int32) then ck (inb ((120 : Int32) + nI d) 576) (restM d x2 x4 (σ5.1 (41, 0, 0) (((120 : Int32) + nI d).toNatClampNeg)) σ5) else bd (F_X11_draws  σ5) fun r48 σ47 => restM d x2 x4 r48 σ47)))) else ck (inb x2 576) (restM d x2 x4 (σ5.1 (41, 0, 0) (x2.toNatClampNeg)) σ5)))) := rfl
theorem m_goA {m : St} {g : Nat → Int32} {d c k w : Nat} (hd : d < 12) (hc : c < 96) (hac : g (96 + d) = nI c) (hk : k < 8) (hgk : g c = nI k) (hw : w < 4) (hgw : g (120 + d) = nI w) : F_X11_goesOn (nI d) (pm m g) = restM d (nI c) (g (108 + d)) (wayv (m.1 (43, 0, 0)) (m.1 (43, 0, 0) 8) (nI k) (g (108 + d)) (nI w) (g 175)).1 (pm m (upd g 175 (wayv (m.1 (43, 0, 0)) (m.1 (43, 0, 0) 8) (nI k) (g (108 + d)) (nI w) (g 175)).2)) := by
  rw [goesOn_u]
  generalize restM = rM
  simp (disch := omega) only [ck_i, i_la, inb_i, inb_l, nI_clamp, nam_i, pm_r, hac, m_toothE, bd_i, pm_t, hgk, hgw, i_lel, i_ltr]
  unfold wayv
  by_cases h4 : 4 ≤ k
  · have h4' : ¬ k < 4 := by omega
    have h4I : (4 : Int32) ≤ nI k := by rw [i_lel (by decide) (by omega)]; exact h4
    rw [if_pos h4, if_pos rfl, if_pos h4I, if_neg h4']
    by_cases h5 : m.1 (43, 0, 0) 8 < g (108 + d)
    · rw [if_pos h5, if_pos h5, upd_id]
    · rw [if_neg h5, if_neg h5, m_draws, bd_i]
  · have h4' : k < 4 := by omega
    have h4I : ¬ (4 : Int32) ≤ nI k := by rw [i_lel (by decide) (by omega)]; exact h4
    rw [if_neg h4, if_neg h4I, if_pos h4']
    by_cases h5 : g (108 + d) < m.1 (43, 0, 0) 2
    · rw [if_pos h5, if_pos rfl, if_pos h5, ite_self, upd_id]
    · by_cases h7 : m.1 (43, 0, 0) 3 < g (108 + d)
      · rw [if_neg h5, if_pos h7, if_pos rfl, if_neg h5, if_pos h7, ite_self, upd_id]
      · rw [if_neg h5, if_neg h7, if_neg (by decide), if_neg h5, if_neg h7, upd_id]
theorem m_goesOn {m : St} {g : Nat → Int32} {n d c k w : Nat} (hn : g 176 = nI n) (h12 : n ≤ 12) (hd : d < 12) (hc : c < 96) (hac : g (96 + d) = nI c) (hk : k < 8) (hgk : g c = nI k) (hw : w < 4) (hgw : g (120 + d) = nI w) : F_X11_goesOn (nI d) (pm m g) = some ((), pm m (goOn (m.1 (43, 0, 0)) (m.1 (43, 0, 0) 8) n d g)) := by
  obtain ⟨j, hj, hje⟩ := wayv_in (R := m.1 (43, 0, 0)) (roll := m.1 (43, 0, 0) 8) (s := g (108 + d)) (sd := g 175) hk hw
  have hcc : (nI c).toNatClampNeg = c := nI_clamp (by omega)
  rw [m_goA hd hc hac hk hgk hw hgw, hje, m_rest hn h12 hd hc hj rfl, goOn, nam_i, hac, hcc, hgk, hgw, hje]
/-- the way of a tick for drop d -/
def actD (R : Nat → Int32) (roll : Int32) (n d : Nat) (g : Nat → Int32) : Nat → Int32 :=
  if g 170 = 0 ∨ g (g (96 + d)).toNatClampNeg = 7 then lose d (hss R (g (108 + d)) (g 169)) g
  else nam (lose d (thn R (g (108 + d)) (g 168)) g) fun g1 =>
    if g1 (132 + d) = 0 then (if R 4 < g1 (108 + d) then goOn R roll n d g1 else endD d 3 (upd g1 173 (g1 173 + g1 (108 + d)))) else g1
theorem m_touches {m : St} {g : Nat → Int32} {d c : Nat} (hd : d < 12) (hc : c < 96) (hac : g (96 + d) = nI c) : F_X11_touches (nI d) (pm m g) = some (if g 170 = 0 ∨ g c = 7 then 1 else 0, pm m g) := by
  by_cases h1 : g 170 = 0
  · simp (disch := omega) only [F_X11_touches, inb_l, ck_i, pm_r, h1, ↓reduceIte, true_or]
  · by_cases h2 : g c = 7 <;> simp (disch := omega) only [F_X11_touches, inb_l, inb_i, i_la, nI_clamp, hac, ck_i, pm_r, h1, h2, ↓reduceIte, false_or]
theorem lose_at {d j : Nat} {n : Int32} {g : Nat → Int32} (h1 : j ≠ 108 + d) (h2 : j ≠ 171) (h3 : j ≠ 132 + d) (h4 : j ≠ 144 + d) : lose d n g j = g j := by
  unfold lose endD
  split
  · rw [pk_un h4, pk_un h3, pk_un h2, pk_un h1]
  · rw [pk_un h2, pk_un h1]
theorem m_acts {m : St} {g : Nat → Int32} {n d c k w : Nat} (hn : g 176 = nI n) (h12 : n ≤ 12) (hd : d < 12) (hc : c < 96) (hac : g (96 + d) = nI c) (hk : k < 8) (hgk : g c = nI k) (hw : w < 4) (hgw : g (120 + d) = nI w) (h6 : ¬ m.1 (43, 0, 0) 6 = 0) (h7 : ¬ m.1 (43, 0, 0) 7 = 0) : F_X11_acts (nI d) (pm m g) = some ((), pm m (actD (m.1 (43, 0, 0)) (m.1 (43, 0, 0) 8) n d g)) := by
  have hcc : (nI c).toNatClampNeg = c := nI_clamp (by omega)
  have h6' : ∀ g' : Nat → Int32, ¬ (pm m g').1 (43, 0, 0) 6 = 0 := fun g' => by rw [pm_t (by omega)]; exact h6
  have h7' : ∀ g' : Nat → Int32, ¬ (pm m g').1 (43, 0, 0) 7 = 0 := fun g' => by rw [pm_t (by omega)]; exact h7
  unfold F_X11_acts actD
  rw [m_touches hd hc hac, bd_i, hac, hcc]
  by_cases ht : g 170 = 0 ∨ g c = 7
  · simp (disch := first | omega | exact h6' _) only [ht, ↓reduceIte, ft10, ck_i, i_la, inb_i, inb_l, nI_clamp, pm_r, m_hisses, bd_i, m_loses, pm_t]
  · rw [if_neg ht, if_pos rfl, if_neg ht]
    simp (disch := first | omega | exact h7' _) only [ck_i, i_la, inb_i, inb_l, nI_clamp, pm_r, m_thins, bd_i, m_loses, pm_t, m_there, nam_i]
    generalize hg1 : lose d (thn (m.1 (43, 0, 0)) (g (108 + d)) (g 168)) g = g1
    have a1 : g1 176 = nI n := by rw [← hg1, lose_at (by omega) (by omega) (by omega) (by omega), hn]
    have a2 : g1 (96 + d) = nI c := by rw [← hg1, lose_at (by omega) (by omega) (by omega) (by omega), hac]
    have a3 : g1 c = nI k := by rw [← hg1, lose_at (by omega) (by omega) (by omega) (by omega), hgk]
    have a4 : g1 (120 + d) = nI w := by rw [← hg1, lose_at (by omega) (by omega) (by omega) (by omega), hgw]
    by_cases ht2 : g1 (132 + d) = 0
    · by_cases ht3 : m.1 (43, 0, 0) 4 < g1 (108 + d)
      · simp only [ht2, decide_true, flg, ↓reduceIte, ft10, ht3, m_goesOn a1 h12 hd hc a2 hk a3 hw a4, bd_i]
      · simp (disch := omega) only [ht2, decide_true, flg, ↓reduceIte, ft10, ht3, bd_i, pm_u, m_ends]
    · simp only [ht2, decide_false, flg, ↓reduceIte, Bool.false_eq_true]
