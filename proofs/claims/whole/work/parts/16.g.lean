/-! drops read from a sheet -/
def fD (ln : Option Nat) (n l : Nat) (f : Int32) (i : Nat) : Int32 := match ln with
  | none => 1
  | some l' => if l' = l then (if 0 ≤ f ∧ f.toNatClampNeg + 3 * i + 2 < n then 0 else 2) else 3
def lnX (ln : Option Nat) (a : Int32) : Prop := match ln with
  | none => a = -1
  | some l => l < 3 ∧ a = nI l
def lnM (ln : Option Nat) (a : Int32) : Prop := match ln with
  | none => a = -4
  | some l => l < 3 ∧ a = nI l
theorem x_fD {σ : St} {q n l i : Nat} {ln : Option Nat} {f : Int32} (hl : lnX ln (σ.1 (26, q, 0) 1)) (hl3 : l < 3) (hn : σ.1 (26, q, 0) 2 = nI n) (hn4 : n ≤ 40) (hi : i ≤ 12) : F_X7_faultOfDrop q (nI l) f (nI i) σ = some (fD ln n l f i, σ) := by
  rw [F_X7_faultOfDrop]
  cases ln with
  | none =>
    have h1 : σ.1 (26, q, 0) 1 = -1 := hl
    rw [if_pos h1, x_fltN h1, bd_i, if_neg (by decide)]
    rfl
  | some l' =>
    obtain ⟨h0, h1⟩ := hl
    rw [if_neg (by rw [h1]; exact lane_ne h0)]
    by_cases z : l' = l
    · subst z
      rw [if_pos h1, fD, if_pos rfl]
      by_cases hf : ∃ j, j < n ∧ f = nI j
      · obtain ⟨j, hj, rfl⟩ := hf
        rw [x_flt0 h1 h0 hn hn4 hj, bd_i, if_pos rfl, nI_clamp (by omega)]
        have e : nI j + 3 * nI i + 2 = nI (j + 3 * i + 2) := by rw [i_lm, nI_add, i_al]
        rw [e]
        have p : (0 : Int32) ≤ nI j := nI_pos' (by omega)
        by_cases z2 : j + 3 * i + 2 < n
        · rw [x_flt0 h1 h0 hn hn4 z2, bd_i, if_pos ⟨p, z2⟩]
        · rw [x_flt2 h1 h0 hn hn4, bd_i, if_neg (fun q => z2 q.2)]
          rintro ⟨j', hj', e'⟩
          rw [i_eq (by omega) (by omega)] at e'
          omega
      · rw [x_flt2 h1 h0 hn hn4 hf, bd_i, if_neg (by decide)]
        rw [if_neg]
        rintro ⟨p1, p2⟩
        rcases pk_ix f (n := n) (by omega) with w | w | w
        · rw [Int32.lt_iff_toInt_lt] at w
          rw [Int32.le_iff_toInt_le] at p1
          omega
        · rw [Int32.le_iff_toInt_le, nI_toInt (by omega)] at w
          have : f.toNatClampNeg = f.toInt.toNat := rfl
          omega
        · exact hf w
    · rw [if_neg (by rw [h1, i_eq (by omega) (by omega)]; exact z), fD, if_neg z]
theorem l_z (f : Int32) : f.toInt64 + (3 * nI 0).toInt64 + (0 : Int32).toInt64 = f.toInt64 := by
  rw [show (3 * nI 0).toInt64 = 0 from rfl, show (0 : Int32).toInt64 = 0 from rfl, Int64.add_zero, Int64.add_zero]
theorem m_fD {σ : St} {q n l i : Nat} {ln : Option Nat} {f c4 c5 c6 c8 : Int32} (hq : q < 4) (hl : lnM ln (σ.1 (52, 0, 0) q)) (hl3 : l < 3) (hn : σ.1 (53, 0, 0) q = nI n) (hn4 : n ≤ 40) (hi : i ≤ 12) (h0 : i = 0 ∨ ∃ j, j < n ∧ f = nI j) (kx : Int32 → St → Option (Int32 × St)) : L_X11_read_67 (nI q) (nI l) f c4 c5 c6 c8 (nI i) FU 0 0 σ kx = kx (fD ln n l f i) σ := by
  have t0 : ¬ (3 : Int32) ≤ 0 := by decide
  have t1 : ¬ (3 : Int32) ≤ 1 := by decide
  have t2 : ¬ (3 : Int32) ≤ 2 := by decide
  have t3 : (3 : Int32) ≤ 3 := by decide
  have a0 : (0 : Int32) + 1 = 1 := by decide
  have a1 : (1 : Int32) + 1 = 2 := by decide
  have a2 : (2 : Int32) + 1 = 3 := by decide
  have n1 : ¬ (1 : Int32) = 0 := by decide
  have n2 : ¬ (2 : Int32) = 0 := by decide
  have n3 : ¬ (3 : Int32) = 0 := by decide
  rw [show FU = 996 + 1 + 1 + 1 + 1 from rfl]
  cases ln with
  | none =>
    have h1 : σ.1 (52, 0, 0) q = -4 := hl
    rw [L_X11_read_67.eq_2]
    simp (disch := omega) only [t0, ↓reduceIte, inb_i, ck_i, nI_clamp, h1, nam_i, a0]
    rw [L_X11_read_67.eq_2, if_neg t1, if_neg n1]
    rfl
  | some l' =>
    obtain ⟨h3, h1⟩ := hl
    have h4 := lane_ne4 h3
    by_cases z : l' = l
    · subst z
      rw [fD, if_pos rfl]
      by_cases hf : ∃ j, j < n ∧ f = nI j
      · obtain ⟨j, hj, rfl⟩ := hf
        have p : (0 : Int32) ≤ nI j := nI_pos' (by omega)
        rw [nI_clamp (by omega)]
        have e : ∀ t, t < 3 → (nI j).toInt64 + (3 * nI i).toInt64 + (nI t).toInt64 = (nI (j + 3 * i + t)).toInt64 := by
          intro t ht
          rw [i_lm, nI_l (by omega), nI_l (by omega), nI_l (by omega), nI_l (by omega)]
          apply Int64.toInt_inj.mp
          rw [Int64.toInt_add, Int64.toInt_add, lN_toInt (by omega), lN_toInt (by omega), lN_toInt (by omega), lN_toInt (by omega)]
          simp only [Int.bmod]
          omega
        have e0 := e 0 (by omega)
        have e1 := e 1 (by omega)
        have e2 := e 2 (by omega)
        rw [show nI 0 = 0 from rfl] at e0
        rw [show nI 1 = 1 from rfl] at e1
        rw [show nI 2 = 2 from rfl] at e2
        have p0 : ∀ t, t < 3 → ¬ lg_cmp (nI (j + 3 * i + t)).toInt64 0 < 0 := by
          intro t ht
          rw [show (0 : Int64) = (0 : Int32).toInt64 from rfl, lg_cmp_lt, l_lt]
          exact nI_pos (by omega)
        have pn : ∀ t, t < 3 → (lg_cmp (nI (j + 3 * i + t)).toInt64 (nI n).toInt64 < 0) = (j + 3 * i + t < n) := by
          intro t ht
          rw [lg_cmp_lt, l_lt, i_lt (by omega) (by omega)]
        by_cases z2 : j + 3 * i + 2 < n
        · rw [if_pos ⟨p, z2⟩]
          have z0 : j + 3 * i + 0 < n := by omega
          have z1 : j + 3 * i + 1 < n := by omega
          rw [L_X11_read_67.eq_2]
          simp (disch := omega) only [t0, ↓reduceIte, inb_i, ck_i, nI_clamp, h1, h4, nam_i, a0, e0, p0, hn, pn, z0]
          rw [L_X11_read_67.eq_2]
          simp (disch := omega) only [t1, ↓reduceIte, inb_i, ck_i, nI_clamp, h1, h4, nam_i, a1, e1, p0, hn, pn, z1]
          rw [L_X11_read_67.eq_2]
          simp (disch := omega) only [t2, ↓reduceIte, inb_i, ck_i, nI_clamp, h1, h4, nam_i, a2, e2, p0, hn, pn, z2]
          rw [L_X11_read_67.eq_2, if_pos t3]
        · rw [if_neg (fun q => z2 q.2)]
          by_cases z0 : j + 3 * i + 0 < n
          · by_cases z1 : j + 3 * i + 1 < n
            · rw [L_X11_read_67.eq_2]
              simp (disch := omega) only [t0, ↓reduceIte, inb_i, ck_i, nI_clamp, h1, h4, nam_i, a0, e0, p0, hn, pn, z0]
              rw [L_X11_read_67.eq_2]
              simp (disch := omega) only [t1, ↓reduceIte, inb_i, ck_i, nI_clamp, h1, h4, nam_i, a1, e1, p0, hn, pn, z1]
              rw [L_X11_read_67.eq_2]
              simp (disch := omega) only [t2, ↓reduceIte, inb_i, ck_i, nI_clamp, h1, h4, nam_i, a2, e2, p0, hn, pn, z2]
              rw [L_X11_read_67.eq_2, if_pos t3]
            · rw [L_X11_read_67.eq_2]
              simp (disch := omega) only [t0, ↓reduceIte, inb_i, ck_i, nI_clamp, h1, h4, nam_i, a0, e0, p0, hn, pn, z0]
              rw [L_X11_read_67.eq_2]
              simp (disch := omega) only [t1, ↓reduceIte, inb_i, ck_i, nI_clamp, h1, h4, nam_i, a1, e1, p0, hn, pn, z1]
              rw [L_X11_read_67.eq_2, if_neg t2, if_neg n2]
          · rw [L_X11_read_67.eq_2]
            simp (disch := omega) only [t0, ↓reduceIte, inb_i, ck_i, nI_clamp, h1, h4, nam_i, a0, e0, p0, hn, pn, z0]
            rw [L_X11_read_67.eq_2, if_neg t1, if_neg n2]
      · have hi0 : i = 0 := by rcases h0 with h | h; exact h; exact absurd h hf
        subst hi0
        have hne : ¬ (0 ≤ f ∧ f.toNatClampNeg + 3 * 0 + 2 < n) := by
          rintro ⟨p1, p2⟩
          rcases pk_ix f (n := n) (by omega) with w | w | w
          · rw [Int32.lt_iff_toInt_lt] at w
            rw [Int32.le_iff_toInt_le] at p1
            omega
          · rw [Int32.le_iff_toInt_le, nI_toInt (by omega)] at w
            have : f.toNatClampNeg = f.toInt.toNat := rfl
            omega
          · exact hf w
        rw [if_neg hne]
        have hz : ¬ (lg_cmp f.toInt64 (0 : Int64) < 0) → ¬ (lg_cmp f.toInt64 (nI n).toInt64 < 0) := by
          rw [show (0 : Int64) = (0 : Int32).toInt64 from rfl, lg_cmp_lt, lg_cmp_lt, l_lt, l_lt]
          intro h1 h2
          rcases pk_ix f (n := n) (by omega) with w | w | w
          · exact h1 w
          · rw [Int32.lt_iff_toInt_lt] at h2
            rw [Int32.le_iff_toInt_le] at w
            omega
          · exact hf w
        by_cases z1 : lg_cmp f.toInt64 (0 : Int64) < 0
        · rw [L_X11_read_67.eq_2]
          simp (disch := omega) only [t0, ↓reduceIte, inb_i, ck_i, nI_clamp, h1, h4, nam_i, a0, l_z, z1]
          rw [L_X11_read_67.eq_2, if_neg t1, if_neg n2]
        · have z2 := hz z1
          rw [L_X11_read_67.eq_2]
          simp (disch := omega) only [t0, ↓reduceIte, inb_i, ck_i, nI_clamp, h1, h4, nam_i, a0, l_z, z1, hn, z2]
          rw [L_X11_read_67.eq_2, if_neg t1, if_neg n2]
    · have z' : ¬ nI l' = nI l := by rw [i_eq (by omega) (by omega)]; exact z
      rw [fD, if_neg z, L_X11_read_67.eq_2]
      simp (disch := omega) only [t0, ↓reduceIte, inb_i, ck_i, nI_clamp, h1, h4, nam_i, a0, z']
      rw [L_X11_read_67.eq_2, if_neg t1, if_neg n3]
theorem fD_0 {ln : Option Nat} {n l i : Nat} {f : Int32} (h : fD ln n l f i = 0) (hn : n ≤ 40) : ln = some l ∧ ∃ j, f = nI j ∧ j + 3 * i + 2 < n := by
  cases ln with
  | none =>
    have : (1 : Int32) = 0 := h
    exact absurd this (by decide)
  | some l' =>
    rw [fD] at h
    by_cases z : l' = l
    · subst z
      refine ⟨rfl, ?_⟩
      rw [if_pos rfl] at h
      by_cases z2 : 0 ≤ f ∧ f.toNatClampNeg + 3 * i + 2 < n
      · refine ⟨f.toNatClampNeg, ?_, z2.2⟩
        rcases pk_ix f (n := n) (by omega) with w | w | w
        · have := z2.1
          rw [Int32.lt_iff_toInt_lt] at w
          rw [Int32.le_iff_toInt_le] at this
          omega
        · rw [Int32.le_iff_toInt_le, nI_toInt (by omega)] at w
          have e : f.toNatClampNeg = f.toInt.toNat := rfl
          have := z2.2
          omega
        · obtain ⟨j, hj, rfl⟩ := w
          rw [nI_clamp (by omega)]
      · rw [if_neg z2] at h
        exact absurd h (by decide)
    · rw [if_neg z] at h
      exact absurd h (by decide)
/-- the drops of one reading are taken back -/
def tkb (n0 : Nat) (p : Int32) (g : Nat → Int32) : Nat → Int32 := upd (upd g 176 (nI n0)) 174 p
theorem tkb_add {n0 n : Nat} {p c s w : Int32} {g0 g : Nat → Int32} (h : Eqv n0 g0 (tkb n0 p g)) (hn : n0 ≤ n) (h12 : n < 12) : Eqv n0 g0 (tkb n0 p (addG n c s w g)) := by
  intro j hj
  have hh := h j hj
  rw [← hh]
  unfold tkb
  by_cases z : j = 174
  · subst z; rw [pk_us, pk_us]
  · rw [pk_un z, pk_un z]
    by_cases z2 : j = 176
    · subst z2; rw [pk_us, pk_us]
    · rw [pk_un z2, pk_un z2]
      have : j < 96 ∨ 168 ≤ j ∨ (96 ≤ j ∧ j < 168 ∧ (j - 96) % 12 < n0) := by
        rcases hj with q | q | q
        · omega
        · omega
        · omega
      exact add_at (by omega) (by omega) (by omega) (by omega) (by omega) (by omega) z z2
theorem rd_loop {x m : St} {q n l N n0 : Nat} {ln : Option Nat} {f c5 c6 c7 c8 p : Int32} {g0 g0' : Nat → Int32} (hq : q < 4) (hlx : lnX ln (x.1 (26, q, 0) 1)) (hlm : lnM ln (m.1 (52, 0, 0) q)) (hl3 : l < 3) (hnx : x.1 (26, q, 0) 2 = nI n) (hnm : m.1 (53, 0, 0) q = nI n) (hn4 : n ≤ 40) (hv : ∀ j, j < 40 → m.1 (54, 0, 0) (40 * q + j) = x.1 (27, q, 0) j) (hN : N ≤ 12) (k1 k2 k3 k4 : Int32 → Int32 → St → Option (Int32 × St)) : ∀ (k i fu fu' nn : Nat) (cm : Int32) (g g' : Nat → Int32), i + k = N → k + 1 < fu → k + 1 < fu' → (i = 0 ∨ ∃ j, j < n ∧ f = nI j) → n0 ≤ nn → Gd nn g → Eqv nn g g' → Eqv n0 g0 (tkb n0 p g) → Eqv n0 g0' (tkb n0 p g') → (∀ j, 177 ≤ j → g' j = m.1 (41, 0, 0) j) →
    (∃ c y n1 h h', L_X10_read_62 (nI l) f (nI N) q c5 c6 fu cm 0 (nI i) (px 0 x g) k1 k2 = k2 c y (px 0 x h) ∧ L_X11_read_52 (nI q) (nI l) f (nI N) c7 c8 fu' 0 cm (nI i) (pm m g') k3 k4 = k4 y c (pm m h') ∧ Gd n1 h ∧ Eqv n1 h h' ∧ (∀ j, 177 ≤ j → h' j = m.1 (41, 0, 0) j)) ∨
    (∃ j r h h', L_X10_read_62 (nI l) f (nI N) q c5 c6 fu cm 0 (nI i) (px 0 x g) k1 k2 = k1 j r (px 0 x h) ∧ L_X11_read_52 (nI q) (nI l) f (nI N) c7 c8 fu' 0 cm (nI i) (pm m g') k3 k4 = k3 j r (pm m h') ∧ Eqv n0 g0 (tkb n0 p h) ∧ Eqv n0 g0' (tkb n0 p h') ∧ (∀ j, 177 ≤ j → h' j = m.1 (41, 0, 0) j)) := by
  intro k
  induction k with
  | zero =>
    intro i fu fu' nn cm g g' hk hfu hfu' hi hnn hG hE hT hT' hh
    obtain ⟨e, rfl⟩ : ∃ e, fu = e + 1 := ⟨fu - 1, by omega⟩
    obtain ⟨e', rfl⟩ : ∃ e, fu' = e + 1 := ⟨fu' - 1, by omega⟩
    have z : N ≤ i := by omega
    refine Or.inl ⟨cm, 0, nn, g, g', ?_, ?_, hG, hE, hh⟩
    · simp (disch := omega) only [L_X10_read_62, i_le, z, ↓reduceIte]
    · simp (disch := omega) only [L_X11_read_52, i_le, z, ↓reduceIte]
  | succ k ih =>
    intro i fu fu' nn cm g g' hk hfu hfu' hi hnn hG hE hT hT' hh
    obtain ⟨e, rfl⟩ : ∃ e, fu = e + 1 + 1 := ⟨fu - 2, by omega⟩
    obtain ⟨e', rfl⟩ : ∃ e, fu' = e + 1 + 1 := ⟨fu' - 2, by omega⟩
    have z : ¬ N ≤ i := by omega
    have hX := x_fD (σ := px 0 x g) (q := q) (l := l) (i := i) (f := f) (ln := ln) (n := n) (by rw [px_t (by omega) (by omega) (by omega)]; exact hlx) hl3 (by rw [px_t (by omega) (by omega) (by omega)]; exact hnx) hn4 (by omega)
    have hM := fun kx => m_fD (σ := pm m g') (q := q) (l := l) (i := i) (f := f) (ln := ln) (n := n) (c4 := nI N) (c5 := c7) (c6 := c8) (c8 := cm) hq (by rw [pm_t (by omega)]; exact hlm) hl3 (by rw [pm_t (by omega)]; exact hnm) hn4 (by omega) hi kx
    by_cases z0 : fD ln n l f i = 0
    · obtain ⟨hl, j, rfl, hj⟩ := fD_0 z0 hn4
      rw [hl] at hlx hlm
      have v : ∀ t, t < 3 → F_X7_valueAt q (nI (j + 3 * i + t)) (px 0 x g) = some (x.1 (27, q, 0) (j + 3 * i + t), px 0 x g) := by
        intro t ht
        rw [F_X7_valueAt, x_flt0 (l := l) (n := n) (by rw [px_t (by omega) (by omega) (by omega)]; exact hlx.2) hl3 (by rw [px_t (by omega) (by omega) (by omega)]; exact hnx) hn4 (by omega), bd_i, if_pos rfl, inb_i (by omega) (by omega), ck_i, nI_clamp (by omega), px_t (by omega) (by omega) (by omega)]
      have v0 := v 0 (by omega)
      have v1 := v 1 (by omega)
      have v2 := v 2 (by omega)
      rw [Nat.add_zero] at v0
      have w0 := hv (j + 3 * i) (by omega)
      have w1 := hv (j + 3 * i + 1) (by omega)
      have w2 := hv (j + 3 * i + 2) (by omega)
      have ea : 40 * q + j + 3 * i = 40 * q + (j + 3 * i) := by omega
      have eb : 40 * q + j + 3 * i + 1 = 40 * q + (j + 3 * i + 1) := by omega
      have ec : 40 * q + j + 3 * i + 2 = 40 * q + (j + 3 * i + 2) := by omega
      rw [← ea] at w0
      rw [← eb] at w1
      rw [← ec] at w2
      rcases drop2 hG hE (x.1 (27, q, 0) (j + 3 * i)) (x.1 (27, q, 0) (j + 3 * i + 1)) (x.1 (27, q, 0) (j + 3 * i + 2)) with ⟨r, hr, e1, e2⟩ | ⟨hn, e1, e2, hGa, hEa⟩
      · have e1 := e1 x
        have e2 := e2 m
        have rn : ¬ 0 ≤ r := by rcases hr with rfl | rfl | rfl <;> decide
        refine Or.inr ⟨nI i, r, g, g', ?_, ?_, hT, hT', hh⟩
        · simp (disch := omega) only [L_X10_read_62.eq_2, i_le, z, ↓reduceIte, hX, z0, bd_i, nam_i, i_lm, nI_add, i_al, v0, v1, v2, e1, rn]
        · simp (disch := omega) only [L_X11_read_52.eq_2, i_le, z, ↓reduceIte, hM, z0, i_lm, nI_add, i_al, inb_i, ck_i, nI_clamp, pm_t, w0, w1, w2, e2, bd_i, rn]
      · have e1 := e1 x
        have e2 := e2 m
        have rn : 0 ≤ nI nn := nI_pos' (by omega)
        have := ih (i + 1) (e + 1) (e' + 1) (nn + 1) (cm + 1) _ _ (by omega) (by omega) (by omega) (Or.inr ⟨j, by omega, rfl⟩) (by omega) hGa hEa (tkb_add hT hnn hn) (tkb_add hT' hnn hn) (fun j hj => by rw [add_at (by omega) (by omega) (by omega) (by omega) (by omega) (by omega) (by omega) (by omega), hh j hj])
        have eX : L_X10_read_62 (nI l) (nI j) (nI N) q c5 c6 (e + 1 + 1) cm 0 (nI i) (px 0 x g) k1 k2 = L_X10_read_62 (nI l) (nI j) (nI N) q c5 c6 (e + 1) (cm + 1) 0 (nI (i + 1)) (px 0 x (addG nn (x.1 (27, q, 0) (j + 3 * i)) (x.1 (27, q, 0) (j + 3 * i + 1)) (x.1 (27, q, 0) (j + 3 * i + 2)) g)) k1 k2 := by
          rw [L_X10_read_62.eq_2]
          simp (disch := omega) only [i_le, z, ↓reduceIte, hX, z0, bd_i, nam_i, i_lm, nI_add, i_al, v0, v1, v2, e1, rn]
        have eM : L_X11_read_52 (nI q) (nI l) (nI j) (nI N) c7 c8 (e' + 1 + 1) 0 cm (nI i) (pm m g') k3 k4 = L_X11_read_52 (nI q) (nI l) (nI j) (nI N) c7 c8 (e' + 1) 0 (cm + 1) (nI (i + 1)) (pm m (addG nn (x.1 (27, q, 0) (j + 3 * i)) (x.1 (27, q, 0) (j + 3 * i + 1)) (x.1 (27, q, 0) (j + 3 * i + 2)) g')) k3 k4 := by
          rw [L_X11_read_52.eq_2]
          simp (disch := omega) only [i_le, z, ↓reduceIte, hM, z0, i_lm, nI_add, i_al, inb_i, ck_i, nI_clamp, pm_t, w0, w1, w2, e2, bd_i, rn, nam_i]
        rw [eX, eM]
        exact this
    · refine Or.inl ⟨cm, fD ln n l f i, nn, g, g', ?_, ?_, hG, hE, hh⟩
      · rw [L_X10_read_62.eq_2]
        simp (disch := omega) only [i_le, z, ↓reduceIte, hX, z0, bd_i, nam_i, i_al]
        rw [L_X10_read_62.eq_2]
        simp only [z0, ↓reduceIte, ite_self]
      · rw [L_X11_read_52.eq_2]
        simp (disch := omega) only [i_le, z, ↓reduceIte, hM, z0, nam_i, i_al]
        rw [L_X11_read_52.eq_2]
        simp only [z0, ↓reduceIte, ite_self]
theorem Rel_N {x m : St} {v : Int32} (h : Rel x m) : Rel (uI x (0, 0, 0) 11 v) (uI m (40, 0, 0) 28 v) := by
  obtain ⟨h1, h2, h3, h4, h5, h6, h7, h8⟩ := id h
  refine ⟨?_, ?_, ?_, ?_, ?_, ?_, ?_, ?_⟩
  · unfold RT at h1 ⊢
    simp (disch := omega) only [rd_t, rd_q, rd_j, rd_e, pk_un, pk_us]
    exact h1
  · unfold RF at h2 ⊢
    simp (disch := omega) only [rd_t, rd_q, rd_j, rd_e, pk_un, pk_us]
    exact h2
  · unfold RU at h3 ⊢
    simp (disch := omega) only [rd_t]
    exact h3
  · unfold RS at h4 ⊢
    simp (disch := omega) only [rd_t, fx_u]
    exact h4
  · intro i hi
    have hh := h5 i hi
    unfold RI1 at hh ⊢
    simp (disch := omega) only [rd_t, fx_u]
    exact hh
  · unfold RO at h6 ⊢
    simp (disch := omega) only [rd_t, rd_e, pk_un]
    exact h6
  · intro i hi
    have hh := h7 i hi
    unfold RH1 at hh ⊢
    simp (disch := omega) only [rd_t]
    exact hh
  · unfold RN
    rw [rd_e, rd_e, pk_us, pk_us]
def rk1 (n0 : Nat) (p : Int32) : Int32 → Int32 → St → Option (Int32 × St) := fun (y37 : Int32) (y38 : Int32) (σ36 : St) => nam (uI σ36 (7, 0, 0) 2 (nI n0)) fun σ39 => nam (uI σ39 (7, 0, 0) 10 p) fun σ40 => (if y38 = (-3 : Int32) then some ((-3 : Int32), σ40) else some ((-20 : Int32) - y37, σ40))
def rk2 : Int32 → Int32 → St → Option (Int32 × St) := fun (y43 : Int32) (y44 : Int32) (σ42 : St) => nam (uI σ42 (0, 0, 0) 11 y44) fun σ45 => some (y43, σ45)
def rk3 (n0 : Nat) (p : Int32) : Int32 → Int32 → St → Option (Int32 × St) := fun (y41 : Int32) (y42 : Int32) (σ40 : St) => bd (F_X11_takesBack (nI n0) p σ40) fun _ σ43 => (if y42 = (-3 : Int32) then some ((-3 : Int32), σ43) else some ((-20 : Int32) - y41, σ43))
def rk4 : Int32 → Int32 → St → Option (Int32 × St) := fun (y47 : Int32) (y48 : Int32) (σ46 : St) => nam (uI σ46 (40, 0, 0) 28 y47) fun σ49 => some (y48, σ49)
theorem s_read (a b c d : Int32) : Sim (F_X10_read a b c d) (F_X11_read a b c d) := by
  intro x m h
  by_cases ha : IV 0 3 a
  · obtain ⟨q, q1, q2, rfl⟩ := id ha
    by_cases hb : IV 0 2 b
    · obtain ⟨l, l1, l2, rfl⟩ := id hb
      by_cases hd : IV 0 12 d
      · obtain ⟨N, N1, N2, rfl⟩ := id hd
        obtain ⟨n, hn4, hnx, hnm, hln, hv⟩ := h.2.2.2.2.2.2.1 q (by omega)
        obtain ⟨ln, hlx, hlm⟩ : ∃ ln, lnX ln (x.1 (26, q, 0) 1) ∧ lnM ln (m.1 (52, 0, 0) q) := by
          rcases hln with ⟨h1, h2⟩ | ⟨l', h0, h1, h2⟩
          · exact ⟨none, h1, h2⟩
          · exact ⟨some l', ⟨h0, h1⟩, ⟨h0, h2⟩⟩
        obtain ⟨n0, g, g', ex, em, hG, hG', hE, rg, rg'⟩ := Rel_open h
        have e174 : g' 174 = g 174 := hE.s (by omega) (by omega)
        have t1 : tkb n0 (g 174) g = g := by unfold tkb; rw [← hG.2.1, upd_id, upd_id]
        have t2 : tkb n0 (g 174) g' = g' := by unfold tkb; rw [← hG'.2.1, upd_id, ← e174, upd_id]
        have L := fun k1 k2 k3 k4 => rd_loop (x := x) (m := m) (f := c) (N := N) (p := g 174) (n0 := n0) (g0 := g) (g0' := g') (c5 := nI n0) (c6 := g 174) (c7 := nI n0) (c8 := g' 174) (show q < 4 by omega) hlx hlm (show l < 3 by omega) hnx hnm hn4 hv N2 k1 k2 k3 k4 N 0 FU FU n0 0 g g' (by omega) (by unfold FU; omega) (by unfold FU; omega) (Or.inl rfl) (Nat.le_refl _) hG hE (by rw [t1]; exact Eqv_rfl) (by rw [t2]; exact Eqv_rfl) (fun j hj => by rw [rg'])
        have e1 : F_X10_read (nI q) (nI l) c (nI N) (px 0 x g) = L_X10_read_62 (nI l) c (nI N) q (nI n0) (g 174) FU 0 0 0 (px 0 x g) (rk1 n0 (g 174)) rk2 := by
          rw [F_X10_read, x_shett (by omega), bd_i, if_neg (by decide), x_lanet (by omega), bd_i, if_neg (by decide), x_wt (by omega) (by omega) (by omega), bd_i, if_neg (by decide), inb_i (by omega) (by omega), ck_i, nam_i, nam_i, px_s2, px_s10, nI_clamp (by omega), hG.2.1]
          rfl
        have e2 : F_X11_read (nI q) (nI l) c (nI N) (pm m g') = L_X11_read_52 (nI q) (nI l) c (nI N) (nI n0) (g' 174) FU 0 0 0 (pm m g') (rk3 n0 (g' 174)) rk4 := by
          rw [F_X11_read, m_shett (by omega) (by omega), bd_i, if_neg (by decide), m_wt (by omega) (by omega) (by omega), bd_i, if_neg (by decide), inb_l (by omega) (by omega), ck_i, nam_i, inb_l (by omega) (by omega), ck_i, nam_i, pm_r, hG'.2.1]
          rfl
        have e1 := (congrArg (F_X10_read (nI q) (nI l) c (nI N)) ex).trans e1
        have e2 := (congrArg (F_X11_read (nI q) (nI l) c (nI N)) em).trans e2
        rcases L (rk1 n0 (g 174)) rk2 (rk3 n0 (g' 174)) rk4 with ⟨cc, y, n1, u, u', a1, a2, a3, a4, a5⟩ | ⟨j, r, u, u', a1, a2, a3, a4, a5⟩
        · refine ⟨cc, uI (px 0 x u) (0, 0, 0) 11 y, uI (pm m u') (40, 0, 0) 28 y, e1.trans ?_, e2.trans ?_, Rel_N (Rel_scene h a3 a4 a5), FrX_u (by omega) FrX_px, FrM_u (by omega) FrM_pm⟩
          · exact a1
          · exact a2
        · have tb : F_X11_takesBack (nI n0) (g' 174) (pm m u') = some ((), pm m (tkb n0 (g 174) u')) := by
            rw [e174]
            simp (disch := omega) only [F_X11_takesBack, inb_l, ck_i, nam_i, pm_u]
            rfl
          refine ⟨if r = -3 then -3 else -20 - j, px 0 x (tkb n0 (g 174) u), pm m (tkb n0 (g 174) u'), e1.trans ?_, e2.trans ?_, Rel_scene h (Gd_eqv a3 hG) (Eqv_trans (Eqv_symm a3) (Eqv_trans hE a4)) (fun j hj => by rw [tkb, pk_un (by omega), pk_un (by omega)]; exact a5 j hj), FrX_px, FrM_pm⟩
          · refine a1.trans ?_
            simp only [rk1, nam_i, pu_s2, pu_s10]
            split <;> rfl
          · refine a2.trans ?_
            simp only [rk3, tb, bd_i]
            split <;> rfl
      · refine Sim_same (r := -1) h ?_ ?_
        · rw [F_X10_read, x_shett (by omega), bd_i, if_neg (by decide), x_lanet (by omega), bd_i, if_neg (by decide), x_wf hd (by omega) (by omega), bd_i, if_pos rfl]
        · rw [F_X11_read, m_shett (by omega) (by omega), bd_i, if_neg (by decide), m_wf hd (by omega) (by omega), bd_i, if_pos rfl]
    · refine Sim_same (r := -1) h ?_ ?_
      · rw [F_X10_read, x_shett (by omega), bd_i, if_neg (by decide), x_lanef hb, bd_i, if_pos rfl]
      · rw [F_X11_read, m_shetf (fun q => hb q.2), bd_i, if_pos rfl]
  · refine Sim_same (r := -1) h ?_ ?_
    · rw [F_X10_read, x_shetf ha, bd_i, if_pos rfl]
    · rw [F_X11_read, m_shetf (fun q => ha q.1), bd_i, if_pos rfl]
