/-! lay, count -/
theorem x_fltN {q : Nat} {σ : St} {a : Int32} (h : σ.1 (26, q, 0) 1 = -1) : F_X7_faultAt q a σ = some (1, σ) := by rw [F_X7_faultAt, if_pos h]
theorem lane_ne {l : Nat} (hl : l < 3) : ¬ nI l = (-1 : Int32) := by
  have : l = 0 ∨ l = 1 ∨ l = 2 := by omega
  rcases this with rfl | rfl | rfl <;> decide
theorem lane_ne4 {l : Nat} (hl : l < 3) : ¬ nI l = (-4 : Int32) := by
  have : l = 0 ∨ l = 1 ∨ l = 2 := by omega
  rcases this with rfl | rfl | rfl <;> decide
theorem x_flt0 {q l n j : Nat} {σ : St} (h : σ.1 (26, q, 0) 1 = nI l) (hl : l < 3) (hn : σ.1 (26, q, 0) 2 = nI n) (hn2 : n ≤ 40) (hj : j < n) : F_X7_faultAt q (nI j) σ = some (0, σ) := by
  have a1 : ¬ nI j < 0 := nI_pos (by omega)
  rw [F_X7_faultAt, h, if_neg (lane_ne hl), if_neg a1, hn, if_pos (nI_lt hj (by omega))]
theorem x_flt2 {q l n : Nat} {a : Int32} {σ : St} (h : σ.1 (26, q, 0) 1 = nI l) (hl : l < 3) (hn : σ.1 (26, q, 0) 2 = nI n) (hn2 : n ≤ 40) (ha : ¬ ∃ j, j < n ∧ a = nI j) : F_X7_faultAt q a σ = some (2, σ) := by
  rw [F_X7_faultAt, h, if_neg (lane_ne hl), hn]
  by_cases h1 : a < 0
  · rw [if_pos h1]
  · rw [if_neg h1]
    rcases pk_ix a (n := n) (by omega) with q | q | q
    · exact absurd q h1
    · rw [if_neg (by rw [Int32.lt_iff_toInt_lt]; rw [Int32.le_iff_toInt_le] at q; omega)]
    · exact absurd q ha
def cut (l : Nat) (v : Int32) : Int32 := if l = 0 then v.toInt8.toInt32 else if l = 1 then v.toInt16.toInt32 else v
theorem s_lay (a b c : Int32) : Sim (F_X10_lay a b c) (F_X11_lay a b c) := by
  intro x m h
  obtain ⟨h1, h2, h3, h4, h5, h6, h7, h8⟩ := id h
  by_cases ha : IV 0 3 a
  · obtain ⟨q, q1, q2, rfl⟩ := id ha
    have q4 : q < 4 := by omega
    obtain ⟨n, a1, a2, a3, a4, a5⟩ := h7 q q4
    have msh : ∀ σ, F_X11_isSheet (nI q) 0 σ = some (1, σ) := fun σ => m_shett (l := 0) q4 (by omega) σ
    rcases a4 with ⟨b1, b2⟩ | ⟨l, hl, b1, b2⟩
    · refine Sim_same (r := -11) h ?_ ?_
      · rw [F_X10_lay, x_shett q4, bd_i, if_neg (by decide), inb_i (by omega) (by omega), ck_i, nI_clamp (by omega), x_fltN b1, bd_i, if_neg (by decide)]
        rfl
      · rw [F_X11_lay, msh, bd_i, if_neg (by decide), inb_i (by omega) (by omega), ck_i, nI_clamp (by omega), if_pos b2]
    · by_cases hb : ∃ j, j < n ∧ b = nI j
      · obtain ⟨j, hj, rfl⟩ := hb
        refine ⟨1, uI x (27, q, 0) j (cut l c), uI m (54, 0, 0) (40 * q + j) (cut l c), ?_, ?_, ⟨?_, ?_, ?_, ?_, ?_, ?_, ?_, ?_⟩, FrX_u (by omega) FrX_rfl, FrM_u (by omega) FrM_rfl⟩
        · rw [F_X10_lay, x_shett q4, bd_i, if_neg (by decide), inb_i (by omega) (by omega), ck_i, nI_clamp (by omega), x_flt0 b1 hl a2 a1 hj, bd_i, if_pos rfl, ck_i, F_X7_write, x_flt0 b1 hl a2 a1 hj, bd_i, if_pos rfl]
          have : l = 0 ∨ l = 1 ∨ l = 2 := by omega
          rcases this with rfl | rfl | rfl <;> simp (disch := omega) only [nam_i, b1, i_eqr, ↓reduceIte, inb_i, ck_i, nI_clamp, bd_i, cut, Nat.reduceEqDiff]
        · rw [F_X11_lay, msh, bd_i, if_neg (by decide), inb_i (by omega) (by omega), ck_i, nI_clamp (by omega), b2, if_neg (lane_ne4 hl), ck_i, a3, m_dt hj (by omega), bd_i, if_neg (by decide)]
          have : l = 0 ∨ l = 1 ∨ l = 2 := by omega
          rcases this with rfl | rfl | rfl <;> simp (disch := omega) only [nam_i, b2, i_eqr, ↓reduceIte, inb_i, i_lm, nI_add, ck_i, nI_clamp, bd_i, cut, Nat.reduceEqDiff]
        · unfold RT at h1 ⊢
          (try simp (disch := omega) only [rd_t, rd_q, rd_j, rd_e, rr_t, rr_q, rr_e, pk_un, pk_us, fx_u, fx_r])
          exact h1
        · unfold RF at h2 ⊢
          (try simp (disch := omega) only [rd_t, rd_q, rd_j, rd_e, rr_t, rr_q, rr_e, pk_un, pk_us, fx_u, fx_r])
          exact h2
        · unfold RU at h3 ⊢
          (try simp (disch := omega) only [rd_t, rd_q, rd_j, rd_e, rr_t, rr_q, rr_e, pk_un, pk_us, fx_u, fx_r])
          exact h3
        · unfold RS at h4 ⊢
          (try simp (disch := omega) only [rd_t, rd_q, rd_j, rd_e, rr_t, rr_q, rr_e, pk_un, pk_us, fx_u, fx_r])
          exact h4
        · intro i hi
          have hh := h5 i hi
          unfold RI1 at hh ⊢
          (try simp (disch := omega) only [rd_t, rd_q, rd_j, rd_e, rr_t, rr_q, rr_e, pk_un, pk_us, fx_u, fx_r])
          exact hh
        · unfold RO at h6 ⊢
          (try simp (disch := omega) only [rd_t, rd_q, rd_j, rd_e, rr_t, rr_q, rr_e, pk_un, pk_us, fx_u, fx_r])
          exact h6
        · intro i hi
          by_cases hiq : i = q
          · subst hiq
            refine ⟨n, a1, ?_, ?_, Or.inr ⟨l, hl, ?_, ?_⟩, fun j' hj' => ?_⟩
            · simp (disch := omega) only [rd_t]; exact a2
            · simp (disch := omega) only [rd_t]; exact a3
            · simp (disch := omega) only [rd_t]; exact b1
            · simp (disch := omega) only [rd_t]; exact b2
            · by_cases hjj : j' = j
              · subst hjj
                simp only [rd_e, pk_us]
              · simp (disch := omega) only [rd_e, pk_un]; exact a5 j' hj'
          · obtain ⟨n', c1, c2, c3, c4, c5⟩ := h7 i hi
            refine ⟨n', c1, ?_, ?_, ?_, fun j' hj' => ?_⟩
            · simp (disch := omega) only [rd_t]; exact c2
            · simp (disch := omega) only [rd_t]; exact c3
            · simp (disch := omega) only [rd_t]; exact c4
            · simp (disch := omega) only [rd_e, pk_un, rd_q]; exact c5 j' hj'
        · unfold RN at h8 ⊢
          (try simp (disch := omega) only [rd_t, rd_q, rd_j, rd_e, rr_t, rr_q, rr_e, pk_un, pk_us, fx_u, fx_r])
          exact h8
      · refine Sim_same (r := -12) h ?_ ?_
        · rw [F_X10_lay, x_shett q4, bd_i, if_neg (by decide), inb_i (by omega) (by omega), ck_i, nI_clamp (by omega), x_flt2 b1 hl a2 a1 hb, bd_i, if_neg (by decide)]
          rfl
        · rw [F_X11_lay, msh, bd_i, if_neg (by decide), inb_i (by omega) (by omega), ck_i, nI_clamp (by omega), b2, if_neg (lane_ne4 hl), ck_i, a3, m_df hb (by omega), bd_i, if_pos rfl]
  · refine Sim_same (r := -1) h ?_ ?_
    · rw [F_X10_lay, x_shetf ha, bd_i, if_pos rfl]
    · rw [F_X11_lay, m_shetf (fun z => ha z.1), bd_i, if_pos rfl]
def hT (g : Nat → Int32) : Nat → Nat → Int32 → Int32
  | 0, _, a => a
  | k + 1, i, a => hT g k (i + 1) (a + if g i = 6 then 1 else 0)
theorem hT_eqv {n : Nat} {g g' : Nat → Int32} (h : Eqv n g g') : ∀ (k i : Nat) (a : Int32), i + k = 96 → hT g' k i a = hT g k i a
  | 0, _, _, _ => rfl
  | k + 1, i, a, hi => by rw [hT, hT, h.c (c := i) (by omega), hT_eqv h k (i + 1) _ (by omega)]
theorem x_hT {q : Nat} {x : St} {g : Nat → Int32} : ∀ (k i fu : Nat) (a : Int32), i + k = 96 → k < fu → L_X6_howManyHoles_4 q fu a (nI i) (px q x g) = some (hT g k i a, px q x g) := by
  intro k
  induction k with
  | zero =>
    intro i fu a hi hf
    obtain ⟨f, rfl⟩ : ∃ f, fu = f + 1 := ⟨fu - 1, by omega⟩
    have : i = 96 := by omega
    subst this
    simp (disch := omega) only [L_X6_howManyHoles_4, i_lel, Nat.le_refl, ↓reduceIte, hT]
  | succ k ih =>
    intro i fu a hi hf
    obtain ⟨f, rfl⟩ : ∃ f, fu = f + 1 := ⟨fu - 1, by omega⟩
    have h1 : ¬ 96 ≤ i := by omega
    rw [hT, ← ih (i + 1) f _ (by omega) (by omega)]
    by_cases h0 : g i = 6 <;> simp (disch := omega) only [L_X6_howManyHoles_4, i_lel, h1, ↓reduceIte, inb_i, ck_i, nI_clamp, px_c, h0, nam_i, i_al]
theorem m_hT {m : St} {g : Nat → Int32} {c : Int32} (kx : Int32 → St → Option (Int32 × St)) : ∀ (k i fu : Nat) (a : Int32), i + k = 96 → k < fu → L_X11_count_4 c fu a (nI i) (pm m g) kx = kx (hT g k i a) (pm m g) := by
  intro k
  induction k with
  | zero =>
    intro i fu a hi hf
    obtain ⟨f, rfl⟩ : ∃ f, fu = f + 1 := ⟨fu - 1, by omega⟩
    have : i = 96 := by omega
    subst this
    simp (disch := omega) only [L_X11_count_4, i_lel, Nat.le_refl, ↓reduceIte, hT]
  | succ k ih =>
    intro i fu a hi hf
    obtain ⟨f, rfl⟩ : ∃ f, fu = f + 1 := ⟨fu - 1, by omega⟩
    have h1 : ¬ 96 ≤ i := by omega
    rw [hT, ← ih (i + 1) f _ (by omega) (by omega)]
    by_cases h0 : g i = 6 <;> simp (disch := omega) only [L_X11_count_4, i_lel, h1, ↓reduceIte, inb_i, ck_i, nI_clamp, pm_r, h0, nam_i, i_al, m_fl1, m_fl0, bd_i]
theorem x_imgs {x : St} {v0 v1 : Int32} (h0 : x.1 (12, 0, 0) 1 = v0) (h1 : x.1 (12, 1, 0) 1 = v1) (b0 : v0 = 0 ∨ v0 = 1) (b1 : v1 = 0 ∨ v1 = 1) : F_X10_howManyImages x = some (v0 + v1, x) := by
  have e : ∀ f, L_X10_howManyImages_4 (f + 3) 0 0 x = some (v0 + v1, x) := by
    intro f
    have c0 : (0 : Int32).toNatClampNeg = 0 := by decide
    have c1 : (1 : Int32).toNatClampNeg = 1 := by decide
    have l0 : ¬ (2 : Int32) ≤ 0 := by decide
    have l1 : ¬ (2 : Int32) ≤ 1 := by decide
    have l2 : (2 : Int32) ≤ 1 + 1 := by decide
    have z1 : (0 : Int32) + 1 = 1 := by decide
    have z0 : (0 : Int32) + 0 = 0 := by decide
    have o0 : (1 : Int32) + 0 = 1 := by decide
    rcases b0 with rfl | rfl <;> rcases b1 with rfl | rfl <;> simp (disch := omega) only [L_X10_howManyImages_4, l0, l1, l2, ↓reduceIte, inb_l, ck_i, nam_i, c0, c1, h0, h1, z1, z0, o0, ft10]
  exact e 997
theorem s_count (a : Int32) : Sim (F_X10_count a) (F_X11_count a) := by
  intro x m h
  obtain ⟨n, g, g', ex, em, hG, hG', hE, rg, rg'⟩ := Rel_open h
  obtain ⟨h1, h2, h3, h4, h5, h6, h7, h8⟩ := id h
  have h12 := hG.1
  have hn := hG.2.1
  have hn' := hG'.2.1
  obtain ⟨tn, t1, t2, t3, _⟩ := h1
  obtain ⟨on, o1, o2, o3, _⟩ := h6
  obtain ⟨sn, s1, s2, s3, s4, _⟩ := h7 0 (by omega)
  obtain ⟨v0, b0, i0, j0⟩ : ∃ v, (v = 0 ∨ v = 1) ∧ x.1 (12, 0, 0) 1 = v ∧ m.1 (42, 0, 0) 0 = v := by
    rcases h5 0 (by omega) with ⟨p, q⟩ | ⟨p, q, _⟩
    · exact ⟨0, Or.inl rfl, p, q⟩
    · exact ⟨1, Or.inr rfl, p, q⟩
  obtain ⟨v1, b1, i1, j1⟩ : ∃ v, (v = 0 ∨ v = 1) ∧ x.1 (12, 1, 0) 1 = v ∧ m.1 (42, 0, 0) 1 = v := by
    rcases h5 1 (by omega) with ⟨p, q⟩ | ⟨p, q, _⟩
    · exact ⟨0, Or.inl rfl, p, q⟩
    · exact ⟨1, Or.inr rfl, p, q⟩
  have f0 : ∀ σ, F_X11_flag v0 σ = some (v0, σ) := fun σ => by rcases b0 with rfl | rfl <;> rfl
  have f1 : ∀ σ, F_X11_flag v1 σ = some (v1, σ) := fun σ => by rcases b1 with rfl | rfl <;> rfl
  obtain ⟨sv, e6x, e6m⟩ : ∃ sv, (if x.1 (26, 0, 0) 1 = (-1 : Int32) then some ((-4 : Int32), x) else some (x.1 (26, 0, 0) 2, x)) = some (sv, x) ∧ (if m.1 (52, 0, 0) 0 = (-4 : Int32) then some ((-4 : Int32), m) else some (m.1 (53, 0, 0) 0, m)) = some (sv, m) := by
    rcases s4 with ⟨p, q⟩ | ⟨l, hl, p, q⟩
    · exact ⟨-4, by rw [if_pos p], by rw [if_pos q]⟩
    · exact ⟨nI sn, by rw [p, if_neg (lane_ne hl), s2], by rw [q, if_neg (lane_ne4 hl), s3]⟩
  have cx : F_X6_howManyThere 0 x = some (cT g n 0 0, x) := by
    have := x_cT (q := 0) (x := x) hn h12 n 0 FU 0 (by omega) (by unfold FU; omega)
    rw [← ex] at this
    exact this
  have cm : F_X11_thereMany m = some (cT g n 0 0, m) := by
    have := m_cT (m := m) hn' h12 n 0 FU 0 (by omega) (by unfold FU; omega)
    rw [← em, cT_eqv hE h12 n 0 0 (by omega)] at this
    exact this
  have hx : F_X6_howManyHoles 0 x = some (hT g 96 0 0, x) := by
    have := x_hT (q := 0) (x := x) (g := g) 96 0 FU 0 (by omega) (by unfold FU; omega)
    rw [← ex] at this
    exact this
  have mx : x.1 (7, 0, 0) 2 = nI n := by rw [ex, px_s2, hn]
  have mm : m.1 (41, 0, 0) 176 = nI n := by rw [← rg', hn']
  refine Sim_same (r := if a = 0 then nI n else if a = 1 then cT g n 0 0 else if a = 2 then nI on else if a = 3 then v0 + v1 else if a = 4 then hT g 96 0 0 else if a = 5 then nI tn else if a = 6 then sv else -1) h ?_ ?_
  · rw [F_X10_count]
    simp (disch := omega) only [mx, cx, o2, x_imgs i0 i1 b0 b1, hx, t2, inb_l, ck_i, e6x, bd_i]
    repeat' split
    all_goals rfl
  · unfold F_X11_count
    have := m_hT (m := m) (g := g') (c := a) (fun (y13 : Int32) (σ12 : St) => (if a = (0 : Int32) then ck (inb (176 : Int32) 576) (some (σ12.1 (41, 0, 0) 176, σ12)) else (if a = (1 : Int32) then bd (F_X11_thereMany  σ12) fun r18 σ17 => some (r18, σ17) else (if a = (2 : Int32) then some (σ12.1 (40, 0, 0) 23, σ12) else (if a = (3 : Int32) then ck (inb (0 : Int32) 2) (bd (F_X11_flag (σ12.1 (42, 0, 0) 0) σ12) fun r24 σ23 => ck (inb (1 : Int32) 2) (bd (F_X11_flag (σ23.1 (42, 0, 0) 1) σ23) fun r28 σ27 => some (r24 + r28, σ27))) else (if a = (4 : Int32) then some (y13, σ12) else (if a = (5 : Int32) then some (σ12.1 (40, 0, 0) 8, σ12) else (if a = (6 : Int32) then ck (inb (0 : Int32) 4) ((if (σ12.1 (52, 0, 0) 0) = (-4 : Int32) then some ((-4 : Int32), σ12) else ck (inb (0 : Int32) 4) (some (σ12.1 (53, 0, 0) 0, σ12)))) else some ((-1 : Int32), σ12))))))))) 96 0 FU 0 (by omega) (by unfold FU; omega)
    rw [← em] at this
    refine this.trans ?_
    simp (disch := omega) only [mm, cm, o3, j0, j1, f0, f1, hT_eqv hE 96 0 0 (by omega), t3, inb_l, ck_i, e6m, bd_i]
    repeat' split
    all_goals rfl
