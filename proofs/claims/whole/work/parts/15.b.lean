/-! calls on the plate, one by one -/
def tkN (R : Nat → Int32) (roll : Int32) (n : Nat) : Nat → (Nat → Int32) → (Nat → Int32)
  | 0, g => g
  | k + 1, g => tkN R roll n k (tickG R roll n g)
theorem Gd_tkN {R : Nat → Int32} {roll : Int32} {n : Nat} (hR : RG R) : ∀ (k : Nat) (g : Nat → Int32), Gd n g → Gd n (tkN R roll n k g)
  | 0, _, h => h
  | k + 1, _, h => Gd_tkN hR k _ (Gd_tick hR h)
theorem Eqv_tkN {R : Nat → Int32} {roll : Int32} {n : Nat} (hR : RG R) : ∀ (k : Nat) (g g' : Nat → Int32), Gd n g → Eqv n g g' → Eqv n (tkN R roll n k g) (tkN R roll n k g')
  | 0, _, _, _, h => h
  | k + 1, _, _, hG, h => Eqv_tkN hR k _ _ (Gd_tick hR hG) (Eqv_tick hR hG h)
theorem tkN_hi {R : Nat → Int32} {roll : Int32} {n : Nat} (h12 : n ≤ 12) {j : Nat} (hj : 177 ≤ j) : ∀ (k : Nat) (g : Nat → Int32), tkN R roll n k g j = g j
  | 0, _ => rfl
  | k + 1, g => by rw [tkN, tkN_hi h12 hj k, tick_hi h12 hj]
theorem x_goL {x : St} {n N : Nat} {roll : Int32} (hN : N ≤ 200) (hR : RG (x.1 (4, 0, 0))) (kx : St → Option (Int32 × St)) : ∀ (k i fu : Nat) (g : Nat → Int32), i + k = N → k < fu → Gd n g → L_X10_go_25 (nI N) roll fu (nI i) (px 0 x g) kx = kx (px 0 x (tkN (x.1 (4, 0, 0)) roll n k g)) := by
  intro k
  induction k with
  | zero =>
    intro i fu g hi hf hG
    obtain ⟨f, rfl⟩ : ∃ f, fu = f + 1 := ⟨fu - 1, by omega⟩
    have : N = i := by omega
    subst this
    simp (disch := omega) only [L_X10_go_25, i_le, Nat.le_refl, ↓reduceIte, tkN]
  | succ k ih =>
    intro i fu g hi hf hG
    obtain ⟨f, rfl⟩ : ∃ f, fu = f + 1 := ⟨fu - 1, by omega⟩
    have h1 : ¬ N ≤ i := by omega
    rw [tkN, ← ih (i + 1) f _ (by omega) (by omega) (Gd_tick hR hG)]
    simp (disch := omega) only [L_X10_go_25, i_le, h1, ↓reduceIte, x_tick hR hG, bd_i, nam_i, i_al]
theorem m_goL {m : St} {n N : Nat} (hN : N ≤ 200) (hR : RG (m.1 (43, 0, 0))) (kx : St → Option (Int32 × St)) : ∀ (k i fu : Nat) (g : Nat → Int32), i + k = N → k < fu → Gd n g → L_X11_go_16 (nI N) fu (nI i) (pm m g) kx = kx (pm m (tkN (m.1 (43, 0, 0)) (m.1 (43, 0, 0) 8) n k g)) := by
  intro k
  induction k with
  | zero =>
    intro i fu g hi hf hG
    obtain ⟨f, rfl⟩ : ∃ f, fu = f + 1 := ⟨fu - 1, by omega⟩
    have : N = i := by omega
    subst this
    simp (disch := omega) only [L_X11_go_16, i_le, Nat.le_refl, ↓reduceIte, tkN]
  | succ k ih =>
    intro i fu g hi hf hG
    obtain ⟨f, rfl⟩ : ∃ f, fu = f + 1 := ⟨fu - 1, by omega⟩
    have h1 : ¬ N ≤ i := by omega
    have h12 := hG.1
    have h1' : ¬ nI N ≤ nI i := by rw [i_le (by omega) (by omega)]; exact h1
    rw [tkN, ← ih (i + 1) f _ (by omega) (by omega) (Gd_tick hR hG), L_X11_go_16, if_neg h1']
    refine (m_tickL (n := n) hR _ _ _ n 0 FU g (by omega) (by unfold FU; omega) hG).trans ?_
    simp (disch := omega) only [inb_l, ck_i, nam_i, pm_r, pm_u, i_al, tickG]
def cT (g : Nat → Int32) : Nat → Nat → Int32 → Int32
  | 0, _, a => a
  | k + 1, i, a => cT g k (i + 1) (a + if g (132 + i) = 0 then 1 else 0)
def sT (g : Nat → Int32) : Nat → Nat → Int32 → Int32
  | 0, _, a => a
  | k + 1, i, a => sT g k (i + 1) (a + if g (132 + i) = 0 then g (108 + i) else 0)
theorem cT_eqv {n : Nat} {g g' : Nat → Int32} (h : Eqv n g g') (h12 : n ≤ 12) : ∀ (k i : Nat) (a : Int32), i + k = n → cT g' k i a = cT g k i a
  | 0, _, _, _ => rfl
  | k + 1, i, a, hi => by rw [cT, cT, h.gone (d := i) (by omega) h12, cT_eqv h h12 k (i + 1) _ (by omega)]
theorem sT_eqv {n : Nat} {g g' : Nat → Int32} (h : Eqv n g g') (h12 : n ≤ 12) : ∀ (k i : Nat) (a : Int32), i + k = n → sT g' k i a = sT g k i a
  | 0, _, _, _ => rfl
  | k + 1, i, a, hi => by rw [sT, sT, h.gone (d := i) (by omega) h12, h.big (d := i) (by omega) h12, sT_eqv h h12 k (i + 1) _ (by omega)]
theorem x_cT {q : Nat} {x : St} {g : Nat → Int32} {n : Nat} (hn : g 176 = nI n) (h12 : n ≤ 12) : ∀ (k i fu : Nat) (a : Int32), i + k = n → k < fu → L_X6_howManyThere_4 q fu a (nI i) (px q x g) = some (cT g k i a, px q x g) := by
  intro k
  induction k with
  | zero =>
    intro i fu a hi hf
    obtain ⟨f, rfl⟩ : ∃ f, fu = f + 1 := ⟨fu - 1, by omega⟩
    have : n = i := by omega
    subst this
    simp (disch := omega) only [L_X6_howManyThere_4, px_s2, hn, i_le, Nat.le_refl, ↓reduceIte, cT]
  | succ k ih =>
    intro i fu a hi hf
    obtain ⟨f, rfl⟩ : ∃ f, fu = f + 1 := ⟨fu - 1, by omega⟩
    have h1 : ¬ n ≤ i := by omega
    rw [cT, ← ih (i + 1) f _ (by omega) (by omega)]
    by_cases h0 : g (132 + i) = 0 <;> simp (disch := omega) only [L_X6_howManyThere_4, px_s2, px_d3, hn, i_le, h1, ↓reduceIte, inb_i, ck_i, nI_clamp, h0, nam_i, i_al]
theorem x_sT {q : Nat} {x : St} {g : Nat → Int32} {n : Nat} (hn : g 176 = nI n) (h12 : n ≤ 12) : ∀ (k i fu : Nat) (a : Int32), i + k = n → k < fu → L_X6_sizesThere_4 q fu a (nI i) (px q x g) = some (sT g k i a, px q x g) := by
  intro k
  induction k with
  | zero =>
    intro i fu a hi hf
    obtain ⟨f, rfl⟩ : ∃ f, fu = f + 1 := ⟨fu - 1, by omega⟩
    have : n = i := by omega
    subst this
    simp (disch := omega) only [L_X6_sizesThere_4, px_s2, hn, i_le, Nat.le_refl, ↓reduceIte, sT]
  | succ k ih =>
    intro i fu a hi hf
    obtain ⟨f, rfl⟩ : ∃ f, fu = f + 1 := ⟨fu - 1, by omega⟩
    have h1 : ¬ n ≤ i := by omega
    rw [sT, ← ih (i + 1) f _ (by omega) (by omega)]
    by_cases h0 : g (132 + i) = 0 <;> simp (disch := omega) only [L_X6_sizesThere_4, px_s2, px_d3, px_d1, hn, i_le, h1, ↓reduceIte, inb_i, ck_i, nI_clamp, h0, nam_i, i_al]
theorem m_cT {m : St} {g : Nat → Int32} {n : Nat} (hn : g 176 = nI n) (h12 : n ≤ 12) : ∀ (k i fu : Nat) (a : Int32), i + k = n → k < fu → L_X11_thereMany_4 fu a (nI i) (pm m g) = some (cT g k i a, pm m g) := by
  intro k
  induction k with
  | zero =>
    intro i fu a hi hf
    obtain ⟨f, rfl⟩ : ∃ f, fu = f + 1 := ⟨fu - 1, by omega⟩
    have : n = i := by omega
    subst this
    simp (disch := omega) only [L_X11_thereMany_4, inb_l, ck_i, pm_r, hn, i_le, Nat.le_refl, ↓reduceIte, cT]
  | succ k ih =>
    intro i fu a hi hf
    obtain ⟨f, rfl⟩ : ∃ f, fu = f + 1 := ⟨fu - 1, by omega⟩
    have h1 : ¬ n ≤ i := by omega
    rw [cT, ← ih (i + 1) f _ (by omega) (by omega)]
    by_cases h0 : g (132 + i) = 0 <;> simp (disch := omega) only [L_X11_thereMany_4, inb_l, ck_i, pm_r, hn, i_le, h1, ↓reduceIte, m_there, h0, decide_true, decide_false, flg, Bool.false_eq_true, bd_i, nam_i, m_fl1, m_fl0, i_al]
theorem m_sT {m : St} {g : Nat → Int32} {n : Nat} {c : Int32} (hn : g 176 = nI n) (h12 : n ≤ 12) (kx : Int32 → St → Option (Int32 × St)) : ∀ (k i fu : Nat) (a : Int32), i + k = n → k < fu → L_X11_now_4 c fu a (nI i) (pm m g) kx = kx (sT g k i a) (pm m g) := by
  intro k
  induction k with
  | zero =>
    intro i fu a hi hf
    obtain ⟨f, rfl⟩ : ∃ f, fu = f + 1 := ⟨fu - 1, by omega⟩
    have : n = i := by omega
    subst this
    simp (disch := omega) only [L_X11_now_4, inb_l, ck_i, pm_r, hn, i_le, Nat.le_refl, ↓reduceIte, sT]
  | succ k ih =>
    intro i fu a hi hf
    obtain ⟨f, rfl⟩ : ∃ f, fu = f + 1 := ⟨fu - 1, by omega⟩
    have h1 : ¬ n ≤ i := by omega
    rw [sT, ← ih (i + 1) f _ (by omega) (by omega)]
    by_cases h0 : g (132 + i) = 0 <;> simp (disch := omega) only [L_X11_now_4, inb_l, inb_i, i_la, nI_clamp, ck_i, pm_r, hn, i_le, h1, ↓reduceIte, m_there, h0, decide_true, decide_false, flg, Bool.false_eq_true, ft10, bd_i, nam_i, i_al]
theorem RU_R {x m : St} (h : RU x m) : RG (m.1 (43, 0, 0)) := by
  rw [h.1]; exact h.2
/-- opening: the parts of a relation, the plate flat on both sides -/
theorem Rel_open {x m : St} (h : Rel x m) : ∃ n g g', x = px 0 x g ∧ m = pm m g' ∧ Gd n g ∧ Gd n g' ∧ Eqv n g g' ∧ g = fx 0 x ∧ g' = m.1 (41, 0, 0) := by
  obtain ⟨n, hG, hE⟩ := h.2.2.2.1
  exact ⟨n, fx 0 x, m.1 (41, 0, 0), (px_fx 0 x).symm, pm_self.symm, hG, Gd_eqv hE hG, hE, rfl, rfl⟩
theorem x_goT {x : St} {g : Nat → Int32} {n N : Nat} (h1 : 1 ≤ N) (h2 : N ≤ 200) (hR : RG (x.1 (4, 0, 0))) (hG : Gd n g) : F_X10_go (nI N) (px 0 x g) = some (cT (tkN (x.1 (4, 0, 0)) (x.1 (4, 0, 0) 8) n N g) n 0 0, px 0 x (tkN (x.1 (4, 0, 0)) (x.1 (4, 0, 0) 8) n N g)) := by
  have h12 := hG.1
  have hG2 := Gd_tkN (roll := x.1 (4, 0, 0) 8) hR N g hG
  unfold F_X10_go
  rw [x_wt (by omega) (by omega) (by omega), bd_i, if_neg (by decide), x_valueL (by decide), bd_i, px_t (by omega) (by omega) (by omega)]
  refine (x_goL (n := n) h2 hR _ N 0 FU g (by omega) (by unfold FU; omega) hG).trans ?_
  have := x_cT (q := 0) (x := x) hG2.2.1 h12 n 0 FU 0 (by omega) (by unfold FU; omega)
  show bd (L_X6_howManyThere_4 0 FU 0 (nI 0) _) _ = _
  rw [this, bd_i]
theorem m_goT {m : St} {g : Nat → Int32} {n N : Nat} (h1 : 1 ≤ N) (h2 : N ≤ 200) (hR : RG (m.1 (43, 0, 0))) (hG : Gd n g) : F_X11_go (nI N) (pm m g) = some (cT (tkN (m.1 (43, 0, 0)) (m.1 (43, 0, 0) 8) n N g) n 0 0, pm m (tkN (m.1 (43, 0, 0)) (m.1 (43, 0, 0) 8) n N g)) := by
  have h12 := hG.1
  have hG2 := Gd_tkN (roll := m.1 (43, 0, 0) 8) hR N g hG
  unfold F_X11_go
  rw [m_wt (by omega) (by omega) (by omega), bd_i, if_neg (by decide)]
  refine (m_goL (n := n) h2 hR _ N 0 FU g (by omega) (by unfold FU; omega) hG).trans ?_
  have := m_cT (m := m) hG2.2.1 h12 n 0 FU 0 (by omega) (by unfold FU; omega)
  show bd (L_X11_thereMany_4 FU 0 (nI 0) _) _ = _
  rw [this, bd_i]
theorem s_go (a : Int32) : Sim (F_X10_go a) (F_X11_go a) := by
  intro x m h
  obtain ⟨n, g, g', ex, em, hG, hG', hE, rg, rg'⟩ := Rel_open h
  have hR := h.2.2.1.2
  have hRm := RU_R h.2.2.1
  have hRe := h.2.2.1.1
  have h12 := hG.1
  by_cases ha : IV 1 200 a
  · obtain ⟨N, h1, h2, rfl⟩ := ha
    have e1 := x_goT (x := x) h1 h2 hR hG
    have e2 := m_goT (m := m) h1 h2 hRm hG'
    rw [← ex] at e1
    have hE2 := Eqv_tkN (roll := x.1 (4, 0, 0) 8) hR N g g' hG hE
    rw [← em, hRe, cT_eqv hE2 h12 n 0 0 (by omega)] at e2
    exact ⟨_, _, _, e1, e2, Rel_scene h (Gd_tkN hR N g hG) hE2 (fun j hj => by rw [tkN_hi h12 hj, rg']), FrX_px, FrM_pm⟩
  · refine ⟨-1, x, m, ?_, ?_, h, FrX_rfl, FrM_rfl⟩
    · unfold F_X10_go
      rw [x_wf ha (by omega) (by omega), bd_i, if_pos rfl]
    · unfold F_X11_go
      rw [m_wf ha (by omega) (by omega), bd_i, if_pos rfl]
