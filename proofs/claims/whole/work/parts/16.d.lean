/-! lives -/
def lfB (R : Nat → Int32) (s h : Nat) (fl : Bool) : Nat := if fl then (R 7).toNatClampNeg * (flT (R 5).toNatClampNeg (R 4).toNatClampNeg 60 s - 1) + 1 else (s + (1 + h / (R 6).toNatClampNeg) - 1) / (1 + h / (R 6).toNatClampNeg)
def lfN (R : Nat → Int32) (s h : Nat) (b : Int32) : Nat := lfB R s h (decide (¬ nI h < (if b = 0 then R 1 else R 0)))
theorem flT_b {ch lp : Nat} : ∀ k s, 1 ≤ flT ch lp k s ∧ flT ch lp k s ≤ k + 1 := by
  intro k
  induction k with
  | zero => intro s; rw [flT]; omega
  | succ k ih =>
    intro s
    rw [flT]
    have := ih (s - flD ch s)
    split <;> omega
theorem lfB_b {R : Nat → Int32} {s h : Nat} {fl : Bool} (hR : RG R) (hs : s ≤ 60) (hh : h ≤ 99) : lfB R s h fl < 1000 := by
  obtain ⟨j, j1, j2, j3⟩ := hR.2.2.2.2.2.1
  obtain ⟨F, F1, F2, F3⟩ := hR.2.2.2.2.2.2.1
  unfold lfB
  rw [j3, F3, nI_clamp (by omega), nI_clamp (by omega)]
  have hb := flT_b (ch := (R 5).toNatClampNeg) (lp := (R 4).toNatClampNeg) 60 s
  cases fl
  · rw [if_neg (by decide)]
    have := Nat.div_le_self h j
    generalize h / j = w at *
    have := Nat.div_le_self (s + (1 + w) - 1) (1 + w)
    omega
  · rw [if_pos rfl]
    generalize flT (R 5).toNatClampNeg (R 4).toNatClampNeg 60 s = w at *
    have : F * (w - 1) ≤ 9 * 60 := Nat.mul_le_mul F2 (by omega)
    omega
theorem x_lifeBy {q : Nat} {σ : St} (hR : RG (σ.1 (4, q, 0))) {s h : Nat} (h1 : 1 ≤ s) (h2 : s ≤ 60) (h3 : h ≤ 99) (b : Int32) : F_X5_lifeBy q (nI s) (nI h) b σ = some (nI (lfB (σ.1 (4, q, 0)) s h (decide (¬ b = 0))), σ) := by
  obtain ⟨lp, l1, l2, l3⟩ := hR.2.2.2.1
  obtain ⟨ch, c1, c2, c3⟩ := hR.2.2.2.2.1
  obtain ⟨j, j1, j2, j3⟩ := hR.2.2.2.2.2.1
  obtain ⟨F, F1, F2, F3⟩ := hR.2.2.2.2.2.2.1
  rw [F_X5_lifeBy]
  unfold lfB
  rw [j3, F3, l3, c3, nI_clamp (by omega), nI_clamp (by omega), nI_clamp (by omega), nI_clamp (by omega)]
  by_cases z : b = 0
  · have hd : (decide (¬ b = 0)) = false := by simp [z]
    have lt := x_lossT (q := q) (σ := σ) (h := nI h) j3 (by omega) (by omega)
    have e : (1 : Int32) + nI h / nI j = nI (1 + h / j) := by rw [pk_div (by omega) (by omega) (by omega), i_la]
    rw [j3, e] at lt
    have hw := Nat.div_le_self h j
    rw [if_pos z, hd, if_neg (by decide)]
    generalize h / j = w at *
    rw [x_lifeT (l := 1 + w) (by omega) (by omega) (by omega) lt, bd_i]
  · have hd : (decide (¬ b = 0)) = true := by simp [z]
    rw [if_neg z, hd, if_pos rfl, F_X5_lifeFloating, show (0 : Int32) = nI 0 from rfl, x_lifeFL c3 c2 l3 l2 _ 60 s 0 FU h2 h1 (by omega) (by unfold FU; omega), Nat.zero_add]
    have hb := flT_b (ch := ch) (lp := lp) 60 s
    generalize flT ch lp 60 s = w at *
    have e : nI w - 1 = nI (w - 1) := pk_sub (b := 1) (by omega)
    simp (disch := omega) only [inb_l, ck_i, F3, e, pk_mul, i_al, bd_i]
    rw [Nat.mul_comm]
theorem x_lifeOf {q : Nat} {σ : St} (hR : RG (σ.1 (4, q, 0))) {s h : Nat} (h1 : 1 ≤ s) (h2 : s ≤ 60) (h3 : h ≤ 99) (b : Int32) : F_X5_lifeOf q (nI s) (nI h) b σ = some (nI (lfN (σ.1 (4, q, 0)) s h b), σ) := by
  rw [F_X5_lifeOf, x_floats, bd_i, x_lifeBy hR h1 h2 h3, bd_i, lfN]
  congr 4
  by_cases z : b = 0
  · rw [if_pos z, if_pos z]
    by_cases z2 : nI h < σ.1 (4, q, 0) 1 <;> simp [z2]
  · rw [if_neg z, if_neg z]
    by_cases z2 : nI h < σ.1 (4, q, 0) 0 <;> simp [z2]
theorem m_lifeOf {σ : St} (hR : RG (σ.1 (43, 0, 0))) {s h : Nat} (h1 : 1 ≤ s) (h2 : s ≤ 60) (h3 : h ≤ 99) (b : Int32) : F_X11_lifeOf (nI s) (nI h) b σ = some (nI (lfB (σ.1 (43, 0, 0)) s h (decide (¬ b = 0))), σ) := by
  obtain ⟨lp, l1, l2, l3⟩ := hR.2.2.2.1
  obtain ⟨ch, c1, c2, c3⟩ := hR.2.2.2.2.1
  obtain ⟨j, j1, j2, j3⟩ := hR.2.2.2.2.2.1
  obtain ⟨F, F1, F2, F3⟩ := hR.2.2.2.2.2.2.1
  rw [F_X11_lifeOf]
  unfold lfB
  rw [j3, F3, l3, c3, nI_clamp (by omega), nI_clamp (by omega), nI_clamp (by omega), nI_clamp (by omega)]
  by_cases z : b = 0
  · have hd : (decide (¬ b = 0)) = false := by simp [z]
    have hw := Nat.div_le_self h j
    have e : (1 : Int32) + nI h / nI j = nI (1 + h / j) := by rw [pk_div (by omega) (by omega) (by omega), i_la]
    have hh : ∀ s, s < 2 ^ 20 → F_X11_hisses (nI s) (nI h) σ = some (nI (if (1 + h / j) ≤ s then (1 + h / j) else s), σ) := by
      intro s hs
      rw [m_hisses (by rw [j3]; exact nI_ne0 (by omega) (by omega)), hss, j3, e]
      generalize h / j = w at *
      rw [lessI_n (by omega) (by omega)]
    rw [hd, if_neg (by decide), z]
    generalize h / j = w at *
    rw [show (nI s) = nI s from rfl]
    have := m_lifeT (l := 1 + w) (by omega) (by omega) hh 60 s 0 FU h2 (by omega) (by omega) (by unfold FU; omega)
    rw [Nat.zero_add] at this
    exact this
  · have hd : (decide (¬ b = 0)) = true := by simp [z]
    rw [hd, if_pos rfl]
    have := m_lifeFL (c := nI h) z F3 F1 F2 c3 c2 l3 l2 60 s 0 FU h2 (by omega) h2 (by omega) (by unfold FU; omega)
    rw [Nat.mul_zero, Nat.zero_add] at this
    exact this
theorem m_lifeAt {σ : St} (hR : RG (σ.1 (43, 0, 0))) {s h : Nat} (h1 : 1 ≤ s) (h2 : s ≤ 60) (h3 : h ≤ 99) (b : Int32) : F_X11_lifeAt (nI s) (nI h) b σ = some (nI (lfN (σ.1 (43, 0, 0)) s h b), σ) := by
  have ef : F_X11_floatsAt (nI h) b σ = some (if nI h < (if b = 0 then σ.1 (43, 0, 0) 1 else σ.1 (43, 0, 0) 0) then 0 else 1, σ) := by
    rw [F_X11_floatsAt]
    by_cases z : b = 0
    · by_cases z2 : nI h < σ.1 (43, 0, 0) 1 <;> simp (disch := omega) only [nam_i, z, ↓reduceIte, inb_l, ck_i, z2]
    · by_cases z2 : nI h < σ.1 (43, 0, 0) 0 <;> simp (disch := omega) only [nam_i, z, ↓reduceIte, inb_l, ck_i, z2]
  rw [F_X11_lifeAt, ef, bd_i, m_lifeOf hR h1 h2 h3, bd_i, lfN]
  congr 4
  generalize (if b = 0 then σ.1 (43, 0, 0) 1 else σ.1 (43, 0, 0) 0) = v
  by_cases z2 : nI h < v <;> simp [z2]
theorem s_life (a b c : Int32) : Sim (F_X10_life a b c) (F_X11_life a b c) := by
  intro x m h
  have hR := h.2.2.1.2
  have hRe := h.2.2.1.1
  by_cases ha : IV 1 60 a
  · obtain ⟨s, s1, s2, rfl⟩ := id ha
    by_cases hb : IV 0 99 b
    · obtain ⟨t, t1, t2, rfl⟩ := id hb
      refine Sim_same (r := nI (lfN (x.1 (4, 0, 0)) s t c)) h ?_ ?_
      · rw [F_X10_life, x_sizet s1 s2, bd_i, if_neg (by decide), x_heatt (by omega), bd_i, if_neg (by decide), x_lifeOf hR s1 s2 t2, bd_i]
      · rw [F_X11_life, m_sizet s1 s2, bd_i, if_neg (by decide), m_heatt (by omega), bd_i, if_neg (by decide), m_lifeAt (by rw [hRe]; exact hR) s1 s2 t2, bd_i, hRe]
    · refine Sim_same (r := -1) h ?_ ?_
      · rw [F_X10_life, x_sizet s1 s2, bd_i, if_neg (by decide), x_heatf hb, bd_i, if_pos rfl]
      · rw [F_X11_life, m_sizet s1 s2, bd_i, if_neg (by decide), m_heatf hb, bd_i, if_pos rfl]
  · refine Sim_same (r := -1) h ?_ ?_
    · rw [F_X10_life, x_sizef ha, bd_i, if_pos rfl]
    · rw [F_X11_life, m_sizef ha, bd_i, if_pos rfl]
