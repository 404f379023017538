/-! ring -/
theorem x_fol {x σ : St} {s : Int32} {c w : Nat} (hs : 0 < s) (hg : ∀ c, c < 96 → ∃ k, k < 8 ∧ fx 0 x c = nI k) (hw : wok (fx 0 x) c w) (hK : KX x σ) :
    (∃ q t' c' w' sn' σ', q < 96 ∧ wk (tsB (x.1 (4, 0, 0)) s) (fx 0 x) 385 0 c w (fun _ => none) = (some q, t', c', w', sn') ∧ F_X3_follow 0 0 (nI c) s (nI w) σ = some (nI q, σ') ∧ KX x σ') ∨
    (∃ t' c' w' sn' t0 σ', c' < 96 ∧ w' < 4 ∧ t' ≤ 384 ∧ t0 < t' ∧ wk (tsB (x.1 (4, 0, 0)) s) (fx 0 x) 385 0 c w (fun _ => none) = (none, t', c', w', sn') ∧ sn' (4 * c' + w') = some t0 ∧ (∀ j t1, sn' j = some t1 → t1 < t') ∧ F_X3_follow 0 0 (nI c) s (nI w) σ = some (-4, σ') ∧ KX x σ' ∧ SXok (σ'.1 (17, 0, 0)) sn' ∧ σ'.1 (16, 0, 0) 2 = nI t0 ∧ σ'.1 (16, 0, 0) 3 = nI (t' - t0)) := by
  have n16 : nX 16 0 := Or.inr (Or.inr (Or.inr (Or.inl ⟨by omega, by omega⟩)))
  have n17 : nX 17 0 := Or.inr (Or.inr (Or.inr (Or.inl ⟨by omega, by omega⟩)))
  have n10 : nX 10 4 := Or.inr (Or.inr (Or.inr (Or.inr ⟨by omega, by omega⟩)))
  have eF : F_J7_fill_53178_t17 (-4) σ = some ((), uR σ (17, 0, 0) (filR (-4) 0 384 (σ.1 (17, 0, 0)))) := x_fill17 384 0 FU σ (by omega) (by unfold FU; omega)
  obtain ⟨σ1, hσ1, hP⟩ : ∃ σ1, F_X0_begin 4 0 (nI c) s (nI w) (uR σ (17, 0, 0) (filR (-4) 0 384 (σ.1 (17, 0, 0)))) = some ((), σ1) ∧ PX x σ1 c w s (fun _ => none) := by
    refine ⟨_, rfl, ?_⟩
    refine ⟨KX_u n10 (KX_u n10 (KX_u n10 (KX_u n10 (KX_u n10 (KX_u n10 (KX_R n17 hK)))))), ?_, ?_, ?_, ?_⟩
    · simp (disch := omega) only [rd_e, pk_un, pk_us]
    · simp (disch := omega) only [rd_e, pk_un, pk_us]
    · simp (disch := omega) only [rd_e, pk_un, pk_us]
    · simp (disch := omega) only [rd_t, rr_e]
      intro j hj
      exact fil_in (by omega) hj
  have L := x_follow (x := x) (s := s) hs hg (fun (y26 : Int32) (y27 : Int32) (σ25 : St) => ck (inb y27 384) (nam (uI σ25 (16, 0, 0) 2 (σ25.1 (17, 0, 0) (y27.toNatClampNeg))) fun σ29 => nam (uI σ29 (16, 0, 0) 3 (y26 - (σ29.1 (16, 0, 0) 2))) fun σ30 => some ((-4 : Int32), σ30))) 384 0 c w FU (fun _ => none) σ1 (by omega) (by unfold FU; omega) (cnt_none 384) (fun j t1 h => by cases h) hw hP
  have eU : F_X3_follow 0 0 (nI c) s (nI w) σ = L_X3_follow_24 0 0 FU (nI 0) σ1 (fun (y26 : Int32) (y27 : Int32) (σ25 : St) => ck (inb y27 384) (nam (uI σ25 (16, 0, 0) 2 (σ25.1 (17, 0, 0) (y27.toNatClampNeg))) fun σ29 => nam (uI σ29 (16, 0, 0) 3 (y26 - (σ29.1 (16, 0, 0) 2))) fun σ30 => some ((-4 : Int32), σ30))) := by
    rw [F_X3_follow, eF, bd_i, hσ1, bd_i]
    rfl
  rw [eU]
  rcases L with h | ⟨t', c', w', sn', t0, σ', h1, h2, h3, h4, h5, h6, h7, h8, h9⟩
  · exact Or.inl h
  · right
    have ht0 := h6 _ _ h5
    have e17 : σ'.1 (17, 0, 0) (4 * c' + w') = nI t0 := by
      have := h9 (4 * c' + w') (by omega)
      rw [h5] at this
      exact this
    refine ⟨t', c', w', sn', t0, uI (uI σ' (16, 0, 0) 2 (nI t0)) (16, 0, 0) 3 (nI t' - nI t0), h1, h2, h3, ht0, h4, h5, h6, ?_, KX_u n16 (KX_u n16 h8), ?_, ?_, ?_⟩
    · rw [h7]
      simp (disch := omega) only [inb_i, ck_i, nam_i, nI_clamp, e17, rd_e, pk_us]
    · simp (disch := omega) only [rd_t]; exact h9
    · simp (disch := omega) only [rd_e, pk_un, pk_us]
    · simp (disch := omega) only [rd_e, pk_us]
      exact pk_sub (by omega)
theorem m_clear {m : St} {c1 c2 c3 a1 a2 a3 a4 a5 : Int32} (kx : St → Option (Int32 × St)) : ∀ (k i fu : Nat) (S : Nat → Int32), i + k = 384 → k < fu → L_X11_along_3 c1 c2 c3 fu (nI i) (po (uR m (48, 0, 0) S) a1 a2 a3 a4 a5) kx = kx (po (uR m (48, 0, 0) (filR 0 i 384 S)) a1 a2 a3 a4 a5) := by
  intro k
  induction k with
  | zero =>
    intro i fu S hk hf
    obtain ⟨f, rfl⟩ : ∃ f, fu = f + 1 := ⟨fu - 1, by omega⟩
    have e : i = 384 := by omega
    subst e
    rw [fil_0]
    simp (disch := omega) only [L_X11_along_3, i_lel, Nat.le_refl, ↓reduceIte]
  | succ k ih =>
    intro i fu S hk hf
    obtain ⟨f, rfl⟩ : ∃ f, fu = f + 1 := ⟨fu - 1, by omega⟩
    have z : ¬ 384 ≤ i := by omega
    have e : uI (po (uR m (48, 0, 0) S) a1 a2 a3 a4 a5) (48, 0, 0) i 0 = po (uR m (48, 0, 0) (upd S i 0)) a1 a2 a3 a4 a5 := by
      rw [pq_o (by omega), uI_R, uR_R, uR_self]
    rw [← fil_s (show i < 384 by omega), ← ih (i + 1) f _ (by omega) (by omega)]
    simp (disch := omega) only [L_X11_along_3.eq_2, i_lel, z, ↓reduceIte, inb_i, ck_i, nI_clamp, nam_i, e, i_al]
theorem m_alo {m : St} {g : Nat → Int32} {s a1 a2 a3 a4 a5 : Int32} {c w : Nat} {S0 : Nat → Int32} (hA : Ag m g) (hg : ∀ c, c < 96 → ∃ k, k < 8 ∧ g c = nI k) (hw : wok g c w) :
    (∃ q t' c' w' sn' S' w9 t9', wk (tsB (m.1 (43, 0, 0)) s) g 385 0 c w (fun _ => none) = (some q, t', c', w', sn') ∧ F_X11_along (nI c) s (nI w) (po (uR m (48, 0, 0) S0) a1 a2 a3 a4 a5) = some (nI t', po (uR m (48, 0, 0) S') (nI q) s w9 2 t9')) ∨
    (∃ t' c' w' sn' S', wk (tsB (m.1 (43, 0, 0)) s) g 385 0 c w (fun _ => none) = (none, t', c', w', sn') ∧ F_X11_along (nI c) s (nI w) (po (uR m (48, 0, 0) S0) a1 a2 a3 a4 a5) = some (nI t', po (uR m (48, 0, 0) S') (nI c') s (nI w') 0 (-4)) ∧ SMok S' sn') := by
  have e : F_X11_along (nI c) s (nI w) (po (uR m (48, 0, 0) S0) a1 a2 a3 a4 a5) = L_X11_along_35 FU (nI 0) (po (uR m (48, 0, 0) (filR 0 0 384 S0)) (nI c) s (nI w) 0 (-4)) := by
    rw [F_X11_along, show (0 : Int32) = nI 0 from rfl, m_clear _ 384 0 FU S0 (by omega) (by unfold FU; omega), m_sets, bd_i, po_po]
    rfl
  rw [e]
  exact m_along (s := s) (t9 := -4) hA hg 384 0 c w FU (fun _ => none) (filR 0 0 384 S0) (by omega) (by unfold FU; omega) (cnt_none 384) (fun j t1 h => by cases h) hw (fun j hj => fil_in (by omega) hj)
/-- is a cell of the ring -/
def rgC (sn : Nat → Option Nat) (t0 c : Nat) : Nat → Nat → Bool → Bool
  | 0, _, b => b
  | k + 1, v, b => rgC sn t0 c k (v + 1) (b || (match sn (4 * c + v) with | none => false | some t => decide (t0 ≤ t)))
def rgS (sn : Nat → Option Nat) (t0 : Nat) : Nat → Nat → Int32 → Int32
  | 0, _, a => a
  | k + 1, c, a => rgS sn t0 k (c + 1) (a + (if rgC sn t0 c 4 0 false then 1 else 0))
def bI (b : Bool) : Int32 := if b then 1 else 0
theorem x_rgC {σ : St} {sn : Nat → Option Nat} {t0 c : Nat} {c1 : Int32} (h17 : SXok (σ.1 (17, 0, 0)) sn) (h16 : σ.1 (16, 0, 0) 2 = nI t0) (ht0 : t0 ≤ 384) (hb : ∀ j t1, sn j = some t1 → t1 < 1000) (hc : c < 96) (kx : Int32 → St → Option (Int32 × St)) : ∀ (k v fu : Nat) (b : Bool), v + k = 4 → k < fu → L_X3_cellsRound_15 c1 (nI c) fu (bI b) (nI v) σ kx = kx (bI (rgC sn t0 c k v b)) σ := by
  intro k
  induction k with
  | zero =>
    intro v fu b hk hf
    obtain ⟨f, rfl⟩ : ∃ f, fu = f + 1 := ⟨fu - 1, by omega⟩
    have z : 4 ≤ v := by omega
    simp (disch := omega) only [L_X3_cellsRound_15, i_lel, z, ↓reduceIte, rgC]
  | succ k ih =>
    intro v fu b hk hf
    obtain ⟨f, rfl⟩ : ∃ f, fu = f + 1 := ⟨fu - 1, by omega⟩
    have z : ¬ 4 ≤ v := by omega
    have hS := h17 (4 * c + v) (by omega)
    have ecw : nI (c * 4 + v) = nI (4 * c + v) := by rw [show c * 4 + v = 4 * c + v by omega]
    rw [rgC, ← ih (v + 1) f _ (by omega) (by omega)]
    cases b with
    | true =>
      have e : bI true = 1 := rfl
      rw [Bool.true_or, e]
      simp (disch := omega) only [L_X3_cellsRound_15.eq_2, i_lel, z, ↓reduceIte, ft10, nam_i, i_al]
    | false =>
      have e : bI false = 0 := rfl
      rw [Bool.false_or]
      cases hsn : sn (4 * c + v) with
      | none =>
        rw [hsn] at hS
        have hS : σ.1 (17, 0, 0) (4 * c + v) = -4 := hS
        have l : (-4 : Int32) < nI t0 := by
          rw [Int32.lt_iff_toInt_lt, nI_toInt (by omega)]
          have : (-4 : Int32).toInt = -4 := by decide
          omega
        rw [e]
        simp (disch := omega) only [L_X3_cellsRound_15.eq_2, i_lel, z, ↓reduceIte, nam_i, i_ml, nI_add, ecw, inb_i, ck_i, nI_clamp, hS, h16, l, i_al]
      | some t =>
        rw [hsn] at hS
        have hS : σ.1 (17, 0, 0) (4 * c + v) = nI t := hS
        have := hb _ _ hsn
        by_cases l : t < t0
        · have l2 : ¬ t0 ≤ t := by omega
          simp only [l2, decide_false]
          rw [e]
          simp (disch := omega) only [L_X3_cellsRound_15.eq_2, i_lel, z, ↓reduceIte, nam_i, i_ml, nI_add, ecw, inb_i, ck_i, nI_clamp, hS, h16, i_lt, l, i_al]
        · have l2 : t0 ≤ t := by omega
          have e1 : bI true = 1 := rfl
          simp only [l2, decide_true]
          rw [e, e1]
          simp (disch := omega) only [L_X3_cellsRound_15.eq_2, i_lel, z, ↓reduceIte, nam_i, i_ml, nI_add, ecw, inb_i, ck_i, nI_clamp, hS, h16, i_lt, l, i_al]
theorem x_rgS {σ : St} {sn : Nat → Option Nat} {t0 : Nat} (h17 : SXok (σ.1 (17, 0, 0)) sn) (h16 : σ.1 (16, 0, 0) 2 = nI t0) (ht0 : t0 ≤ 384) (hb : ∀ j t1, sn j = some t1 → t1 < 1000) : ∀ (k c fu : Nat) (a : Int32), c + k = 96 → k < fu → L_X3_cellsRound_4 fu a (nI c) σ = some (rgS sn t0 k c a, σ) := by
  intro k
  induction k with
  | zero =>
    intro c fu a hk hf
    obtain ⟨f, rfl⟩ : ∃ f, fu = f + 1 := ⟨fu - 1, by omega⟩
    have z : 96 ≤ c := by omega
    simp (disch := omega) only [L_X3_cellsRound_4, i_lel, z, ↓reduceIte, rgS]
  | succ k ih =>
    intro c fu a hk hf
    obtain ⟨f, rfl⟩ : ∃ f, fu = f + 1 := ⟨fu - 1, by omega⟩
    have z : ¬ 96 ≤ c := by omega
    have L := fun kx => x_rgC (c1 := a) h17 h16 ht0 hb (show c < 96 by omega) kx 4 0 FU false (by omega) (by unfold FU; omega)
    have L' : ∀ kx, L_X3_cellsRound_15 a (nI c) FU 0 0 σ kx = kx (bI (rgC sn t0 c 4 0 false)) σ := L
    rw [rgS, ← ih (c + 1) f _ (by omega) (by omega), L_X3_cellsRound_4.eq_2, if_neg (by rw [i_lel (by decide) (by omega)]; exact z), L']
    cases rgC sn t0 c 4 0 false with
    | true =>
      have e : bI true = 1 := rfl
      simp (disch := omega) only [e, ft10, ↓reduceIte, nam_i, i_al]
    | false =>
      have e : bI false = 0 := rfl
      simp (disch := omega) only [e, ↓reduceIte, nam_i, i_al, Bool.false_eq_true]
theorem m_rgC {σ : St} {sn : Nat → Option Nat} {t0 c : Nat} {c4 c5 c7 : Int32} (h48 : SMok (σ.1 (48, 0, 0)) sn) (ht0 : t0 ≤ 384) (hb : ∀ j t1, sn j = some t1 → t1 < 1000) (hc : c < 96) (kx : Int32 → St → Option (Int32 × St)) : ∀ (k v fu : Nat) (b : Bool), v + k = 4 → k < fu → L_X11_ring_95 c4 c5 (nI (t0 + 1)) c7 (nI c) fu (bI b) (nI v) σ kx = kx (bI (rgC sn t0 c k v b)) σ := by
  intro k
  induction k with
  | zero =>
    intro v fu b hk hf
    obtain ⟨f, rfl⟩ : ∃ f, fu = f + 1 := ⟨fu - 1, by omega⟩
    have z : 4 ≤ v := by omega
    simp (disch := omega) only [L_X11_ring_95, i_lel, z, ↓reduceIte, rgC]
  | succ k ih =>
    intro v fu b hk hf
    obtain ⟨f, rfl⟩ : ∃ f, fu = f + 1 := ⟨fu - 1, by omega⟩
    have z : ¬ 4 ≤ v := by omega
    have hS := h48 (4 * c + v) (by omega)
    rw [rgC, ← ih (v + 1) f _ (by omega) (by omega)]
    cases b with
    | true =>
      have e : bI true = 1 := rfl
      rw [Bool.true_or, e]
      simp (disch := omega) only [L_X11_ring_95.eq_2, i_lel, z, ↓reduceIte, ft10, nam_i, i_al]
    | false =>
      have e : bI false = 0 := rfl
      rw [Bool.false_or]
      cases hsn : sn (4 * c + v) with
      | none =>
        rw [hsn] at hS
        have hS : σ.1 (48, 0, 0) (4 * c + v) = 0 := hS
        have l : (0 : Int32) < nI (t0 + 1) := nI_lt (a := 0) (by omega) (by omega)
        rw [e]
        simp (disch := omega) only [L_X11_ring_95.eq_2, i_lel, z, ↓reduceIte, nam_i, i_lm, nI_add, inb_i, ck_i, nI_clamp, hS, l, i_al]
      | some t =>
        rw [hsn] at hS
        have hS : σ.1 (48, 0, 0) (4 * c + v) = nI (t + 1) := hS
        have := hb _ _ hsn
        by_cases l : t + 1 < t0 + 1
        · have l2 : ¬ t0 ≤ t := by omega
          simp only [l2, decide_false]
          rw [e]
          simp (disch := omega) only [L_X11_ring_95.eq_2, i_lel, z, ↓reduceIte, nam_i, i_lm, nI_add, inb_i, ck_i, nI_clamp, hS, i_lt, l, i_al]
        · have l2 : t0 ≤ t := by omega
          have e1 : bI true = 1 := rfl
          simp only [l2, decide_true]
          rw [e, e1]
          simp (disch := omega) only [L_X11_ring_95.eq_2, i_lel, z, ↓reduceIte, nam_i, i_lm, nI_add, inb_i, ck_i, nI_clamp, hS, i_lt, l, i_al]
theorem m_rgS {σ : St} {sn : Nat → Option Nat} {t0 : Nat} {c4 c5 : Int32} (h48 : SMok (σ.1 (48, 0, 0)) sn) (ht0 : t0 ≤ 384) (hb : ∀ j t1, sn j = some t1 → t1 < 1000) (kx : Int32 → St → Option (Int32 × St)) : ∀ (k c fu : Nat) (a : Int32), c + k = 96 → k < fu → L_X11_ring_82 c4 c5 (nI (t0 + 1)) fu a (nI c) σ kx = kx (rgS sn t0 k c a) σ := by
  intro k
  induction k with
  | zero =>
    intro c fu a hk hf
    obtain ⟨f, rfl⟩ : ∃ f, fu = f + 1 := ⟨fu - 1, by omega⟩
    have z : 96 ≤ c := by omega
    simp (disch := omega) only [L_X11_ring_82, i_lel, z, ↓reduceIte, rgS]
  | succ k ih =>
    intro c fu a hk hf
    obtain ⟨f, rfl⟩ : ∃ f, fu = f + 1 := ⟨fu - 1, by omega⟩
    have z : ¬ 96 ≤ c := by omega
    have L := fun kx => m_rgC (c4 := c4) (c5 := c5) (c7 := a) h48 ht0 hb (show c < 96 by omega) kx 4 0 FU false (by omega) (by unfold FU; omega)
    have L' : ∀ kx, L_X11_ring_95 c4 c5 (nI (t0 + 1)) a (nI c) FU 0 0 σ kx = kx (bI (rgC sn t0 c 4 0 false)) σ := L
    rw [rgS, ← ih (c + 1) f _ (by omega) (by omega), L_X11_ring_82.eq_2, if_neg (by rw [i_lel (by decide) (by omega)]; exact z), L']
    cases rgC sn t0 c 4 0 false with
    | true =>
      have e : bI true = 1 := rfl
      simp (disch := omega) only [e, m_fl1, bd_i, ↓reduceIte, nam_i, i_al]
    | false =>
      have e : bI false = 0 := rfl
      simp (disch := omega) only [e, m_fl0, bd_i, ↓reduceIte, nam_i, i_al, Bool.false_eq_true]
theorem s_ring (a b c d : Int32) : Sim (F_X10_ring a b c d) (F_X11_ring a b c d) := by
  intro x m h
  have hR := h.2.2.1.2
  have hRe := h.2.2.1.1
  obtain ⟨hGc, hMc⟩ := Rel_cells h
  by_cases ha : DT a b c
  · obtain ⟨⟨c, _, hc, rfl⟩, ⟨s, hs, hs2, rfl⟩, ⟨w, _, hw, rfl⟩⟩ := id ha
    have hc' : c < 96 := by omega
    have hw' : w < 4 := by omega
    by_cases hd : IV 0 2 d
    · obtain ⟨y, _, y2, rfl⟩ := id hd
      obtain ⟨k, hk8, hk⟩ := hGc.1 c hc'
      have hkm : m.1 (41, 0, 0) c = nI k := by rw [hMc c (Or.inl hc'), hk]
      by_cases hsh : k = 5 ∨ k = 6
      · refine Sim_same (r := -2) h ?_ ?_
        · rw [F_X10_ring, x_dtt hc' hs hs2 hw', bd_i, if_neg (by decide), x_wt (by omega) (by omega) (by omega), bd_i, if_neg (by decide), x_openS hc' hk hk8, bd_i, if_pos hsh, if_pos rfl]
        · rw [F_X11_ring, m_dtt hc' hs hs2 hw', bd_i, if_neg (by decide), m_wt (by omega) (by omega) (by omega), bd_i, if_neg (by decide), inb_i (by omega) (by omega), ck_i, nI_clamp (by omega), hkm, m_shut hk8, bd_i, if_pos hsh, if_neg (by decide)]
      · have hwok : wok (fx 0 x) c w := ⟨hc', hw', k, hk8, fun q => hsh (Or.inl q), fun q => hsh (Or.inr q), hk⟩
        have hA : Ag m (fx 0 x) := ⟨fun c hc => hMc c (Or.inl hc), hMc 169 (by omega), hMc 170 (by omega)⟩
        have hs0 : (0 : Int32) < nI s := nI_lt (a := 0) (by omega) (by omega)
        have eX : F_X10_ring (nI c) (nI s) (nI w) (nI y) x = bd (F_X3_follow 0 0 (nI c) (nI s) (nI w) x) fun r11 σ10 => (if r11 = (-4 : Int32) then (if nI y = (0 : Int32) then some (σ10.1 (16, 0, 0) 2, σ10) else (if nI y = (1 : Int32) then some (σ10.1 (16, 0, 0) 3, σ10) else bd (F_X3_cellsRound  σ10) fun r16 σ15 => some (r16, σ15))) else some ((-4 : Int32), σ10)) := by
          rw [F_X10_ring, x_dtt hc' hs hs2 hw', bd_i, if_neg (by decide), x_wt (by omega) (by omega) (by omega), bd_i, if_neg (by decide), x_openS hc' hk hk8, bd_i, if_neg hsh, if_neg (by decide)]
        have em : m = po (uR m (48, 0, 0) (m.1 (48, 0, 0))) (m.1 (40, 0, 0) 15) (m.1 (40, 0, 0) 16) (m.1 (40, 0, 0) 17) (m.1 (40, 0, 0) 18) (m.1 (40, 0, 0) 19) := by
          rw [uR_id]
          unfold po
          rw [uI_id, uI_id, uI_id, uI_id, uI_id]
        have eM : F_X11_ring (nI c) (nI s) (nI w) (nI y) m = bd (F_X11_along (nI c) (nI s) (nI w) m) fun r12 σ11 => (if (σ11.1 (40, 0, 0) 18) = 0 then ck (inb (((4 : Int32) * (σ11.1 (40, 0, 0) 15)) + (σ11.1 (40, 0, 0) 17)) 384) (nam (σ11.1 (48, 0, 0) ((((4 : Int32) * (σ11.1 (40, 0, 0) 15)) + (σ11.1 (40, 0, 0) 17)).toNatClampNeg)) fun x15 => L_X11_ring_82 (nI y) r12 x15 FU (0 : Int32) (0 : Int32) σ11 (fun (y33 : Int32) (σ32 : St) => (if nI y = 0 then some (x15 - (1 : Int32), σ32) else (if nI y = (1 : Int32) then some ((r12 - x15) + (1 : Int32), σ32) else some (y33, σ32))))) else some ((-4 : Int32), σ11)) := by
          rw [F_X11_ring, m_dtt hc' hs hs2 hw', bd_i, if_neg (by decide), m_wt (by omega) (by omega) (by omega), bd_i, if_neg (by decide), inb_i (by omega) (by omega), ck_i, nI_clamp (by omega), hkm, m_shut hk8, bd_i, if_neg hsh, if_pos rfl]
        have MA := m_alo (m := m) (s := nI s) (a1 := m.1 (40, 0, 0) 15) (a2 := m.1 (40, 0, 0) 16) (a3 := m.1 (40, 0, 0) 17) (a4 := m.1 (40, 0, 0) 18) (a5 := m.1 (40, 0, 0) 19) (S0 := m.1 (48, 0, 0)) hA hGc.1 hwok
        rw [← em, hRe] at MA
        rcases x_fol (x := x) (σ := x) hs0 hGc.1 hwok KX_rfl with ⟨q, t', c', w', sn', σ', hq, e1, e2, e3⟩ | ⟨t', c', w', sn', t0, σ', hc1, hw1, ht1, ht0, e1, e2, e3, e4, e5, e6, e7, e8⟩
        · rcases MA with ⟨q2, t2, c2, w2, sn2, S2, w9, t9, f1, f2⟩ | ⟨t2, c2, w2, sn2, S2, f1, f2, f3⟩
          · refine Sim_scr (r := -4) (x' := σ') (m' := po (uR m (48, 0, 0) S2) (nI q2) (nI s) w9 2 t9) h ?_ ?_ e3 (KM_po (KM_R (by omega) KM_rfl))
            · rw [eX, e2, bd_i, if_neg (by rw [i_nm4 (by omega)]; exact not_false)]
            · rw [eM, f2, bd_i, po_18, if_neg (by decide)]
          · rw [e1] at f1; cases f1
        · rcases MA with ⟨q2, t2, c2, w2, sn2, S2, w9, t9, f1, f2⟩ | ⟨t2, c2, w2, sn2, S2, f1, f2, f3⟩
          · rw [e1] at f1; cases f1
          · rw [e1] at f1
            cases f1
            have h48 : (po (uR m (48, 0, 0) S2) (nI c') (nI s) (nI w') 0 (-4)).1 (48, 0, 0) = S2 := by rw [po_t (by omega), rr_e]
            have hS2 : S2 (4 * c' + w') = nI (t0 + 1) := by
              have := f3 (4 * c' + w') (by omega)
              rw [e2] at this
              exact this
            have hb : ∀ j t1, sn' j = some t1 → t1 < 1000 := fun j t1 hj => by have := e3 j t1 hj; omega
            have LM := fun kx => m_rgS (σ := po (uR m (48, 0, 0) S2) (nI c') (nI s) (nI w') 0 (-4)) (c4 := nI y) (c5 := nI t') (t0 := t0) (sn := sn') (by rw [h48]; exact f3) (by omega) hb kx 96 0 FU 0 (by omega) (by unfold FU; omega)
            refine Sim_scr (r := if nI y = 0 then nI t0 else if nI y = 1 then nI (t' - t0) else rgS sn' t0 96 0 0) (x' := σ') (m' := po (uR m (48, 0, 0) S2) (nI c') (nI s) (nI w') 0 (-4)) h ?_ ?_ e5 (KM_po (KM_R (by omega) KM_rfl))
            · have ec : F_X3_cellsRound σ' = some (rgS sn' t0 96 0 0, σ') := x_rgS e6 e7 (by omega) hb 96 0 FU 0 (by omega) (by unfold FU; omega)
              rw [eX, e4, bd_i, if_pos rfl, e7, e8, ec, bd_i]
              split
              · rfl
              · split <;> rfl
            · rw [eM, f2, bd_i, po_18, if_pos rfl, po_15, po_17, i_lm, nI_add, inb_i (by omega) (by omega), ck_i, nI_clamp (by omega), h48, hS2, nam_i]
              refine (LM _).trans ?_
              have g1 : nI (t0 + 1) - 1 = nI t0 := by rw [nI_pred]
              have g2 : nI t' - nI (t0 + 1) + 1 = nI (t' - t0) := by
                rw [pk_sub (by omega), i_al, show t' - (t0 + 1) + 1 = t' - t0 by omega]
              rw [g1, g2]
              split
              · rfl
              · split <;> rfl
    · refine Sim_same (r := -1) h ?_ ?_
      · rw [F_X10_ring, x_dtt hc' hs hs2 hw', bd_i, if_neg (by decide), x_wf hd (by omega) (by omega), bd_i, if_pos rfl]
      · rw [F_X11_ring, m_dtt hc' hs hs2 hw', bd_i, if_neg (by decide), m_wf hd (by omega) (by omega), bd_i, if_pos rfl]
  · refine Sim_same (r := -1) h ?_ ?_
    · rw [F_X10_ring, x_dtf ha, bd_i, if_pos rfl]
    · rw [F_X11_ring, m_dtf ha, bd_i, if_pos rfl]
