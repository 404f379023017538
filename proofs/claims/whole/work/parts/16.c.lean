/-! life floating: the model's loop -/
theorem m_lf_th {σ : St} {F ch : Nat} (h7 : σ.1 (43, 0, 0) 7 = nI F) (hF : 1 ≤ F) (hF9 : F ≤ 9) (h5 : σ.1 (43, 0, 0) 5 = nI ch) (hch : ch ≤ 99) {s t : Nat} (hs : s < 2 ^ 20) (ht : t < 2 ^ 20) : F_X11_thins (nI s) (nI t) σ = some (nI (if t % F = 0 then (if flD ch s ≤ s then flD ch s else s) else 0), σ) := by
  have h70 : ¬ σ.1 (43, 0, 0) 7 = 0 := by rw [h7]; exact nI_ne0 (by omega) (by omega)
  rw [m_thins h70]
  unfold thn
  rw [h7, pk_rem (by omega) (by omega) (by omega), h5]
  have hm : t % F < F := Nat.mod_lt _ (by omega)
  by_cases z : t % F = 0
  · rw [z, if_pos rfl, if_pos (by rfl)]
    unfold flD
    by_cases z2 : s < ch
    · rw [if_pos z2, if_pos (nI_lt z2 (by omega)), show (1 : Int32) = nI 1 from rfl, lessI_n (by omega) (by omega)]
    · rw [if_neg z2, if_neg (nI_nlt (by omega) (by omega)), show (2 : Int32) = nI 2 from rfl, lessI_n (by omega) (by omega)]
  · rw [if_neg z, if_neg (nI_ne0 (by omega) (by omega))]
    rfl
theorem m_lf_idle {σ : St} {c c3 : Int32} {F ch lp : Nat} (h3 : ¬ c3 = 0) (h7 : σ.1 (43, 0, 0) 7 = nI F) (hF : 1 ≤ F) (hF9 : F ≤ 9) (h5 : σ.1 (43, 0, 0) 5 = nI ch) (hch : ch ≤ 99) (h4 : σ.1 (43, 0, 0) 4 = nI lp) (hlp : lp ≤ 9) {s t f : Nat} (hs : s < 2 ^ 20) (ht : t < 2 ^ 20) (hz : ¬ t % F = 0) (hsl : lp < s) : L_X11_lifeOf_9 c c3 (f + 1) (nI s) (nI t) 1 σ = L_X11_lifeOf_9 c c3 f (nI s) (nI (t + 1)) 1 σ := by
  have e := m_lf_th h7 hF hF9 h5 hch hs ht
  rw [if_neg hz] at e
  have e2 : nI s - nI 0 = nI s := pk_sub (b := 0) (by omega)
  have e3 : ¬ nI s ≤ 0 := nI_nle (by omega) (by omega)
  have e4 : ¬ s ≤ lp := by omega
  simp (disch := omega) only [L_X11_lifeOf_9.eq_2, ft10, h3, ↓reduceIte, e, bd_i, nam_i, e2, e3, inb_l, ck_i, h4, i_le, e4, i_al]
theorem m_lf_wait {σ : St} {c c3 : Int32} {F ch lp : Nat} (h3 : ¬ c3 = 0) (h7 : σ.1 (43, 0, 0) 7 = nI F) (hF : 1 ≤ F) (hF9 : F ≤ 9) (h5 : σ.1 (43, 0, 0) 5 = nI ch) (hch : ch ≤ 99) (h4 : σ.1 (43, 0, 0) 4 = nI lp) (hlp : lp ≤ 9) {s j : Nat} (hs : s < 2 ^ 20) (hj : j < 100) (hsl : lp < s) : ∀ (i f : Nat), i < F → L_X11_lifeOf_9 c c3 (f + i) (nI s) (nI (F * j + F - i)) 1 σ = L_X11_lifeOf_9 c c3 f (nI s) (nI (F * j + F)) 1 σ := by
  intro i
  induction i with
  | zero => intro f _; rfl
  | succ i ih =>
    intro f hi
    have hb : F * j ≤ 9 * 100 := Nat.mul_le_mul hF9 (by omega)
    have hz : ¬ (F * j + F - (i + 1)) % F = 0 := by
      have e : F * j + F - (i + 1) = (F - (i + 1)) + F * j := by omega
      rw [e, Nat.add_mul_mod_self_left, Nat.mod_eq_of_lt (by omega)]
      omega
    have := m_lf_idle (c := c) (f := f + i) h3 h7 hF hF9 h5 hch h4 hlp hs (t := F * j + F - (i + 1)) (by omega) hz hsl
    have e2 : F * j + F - (i + 1) + 1 = F * j + F - i := by omega
    rw [e2, ih f (by omega)] at this
    exact this
theorem m_lifeFL {σ : St} {c c3 : Int32} {F ch lp : Nat} (h3 : ¬ c3 = 0) (h7 : σ.1 (43, 0, 0) 7 = nI F) (hF : 1 ≤ F) (hF9 : F ≤ 9) (h5 : σ.1 (43, 0, 0) 5 = nI ch) (hch : ch ≤ 99) (h4 : σ.1 (43, 0, 0) 4 = nI lp) (hlp : lp ≤ 9) : ∀ (k s j fu : Nat), s ≤ k → 0 < s → s ≤ 60 → j + s ≤ 60 → F * k + 2 ≤ fu → L_X11_lifeOf_9 c c3 fu (nI s) (nI (F * j)) 1 σ = some (nI (F * (j + flT ch lp k s - 1) + 1), σ) := by
  intro k
  induction k with
  | zero => intro s j fu h1 h2; omega
  | succ k ih =>
    intro s j fu h1 h2 hs60 hjs hf
    have hfk : F * (k + 1) = F * k + F := Nat.mul_succ F k
    obtain ⟨f, rfl⟩ : ∃ f, fu = f + (F - 1) + 1 := ⟨fu - F, by omega⟩
    have hb : F * j ≤ 9 * 60 := Nat.mul_le_mul hF9 (by omega)
    have e := m_lf_th h7 hF hF9 h5 hch (s := s) (t := F * j) (by omega) (by omega)
    rw [if_pos (Nat.mul_mod_right F j)] at e
    have hd1 : 1 ≤ flD ch s ∧ flD ch s ≤ 2 := by unfold flD; split <;> omega
    rw [flT]
    generalize flD ch s = d at *
    have e2 : nI s - nI (if d ≤ s then d else s) = nI (s - d) := by
      split
      · exact pk_sub (by assumption)
      · rw [pk_sub (Nat.le_refl s)]
        congr 1
        omega
    by_cases z : s - d ≤ lp
    · rw [if_pos z]
      obtain ⟨f', hf'⟩ : ∃ f', f + (F - 1) = f' + 1 := ⟨f + (F - 1) - 1, by omega⟩
      have ej : j + 1 - 1 = j := by omega
      rw [hf', ej]
      by_cases z0 : nI (s - d) ≤ 0
      · simp (disch := omega) only [L_X11_lifeOf_9.eq_2, ft10, h3, ↓reduceIte, e, bd_i, nam_i, e2, z0, i_al]
      · simp (disch := omega) only [L_X11_lifeOf_9.eq_2, ft10, h3, ↓reduceIte, e, bd_i, nam_i, e2, z0, inb_l, ck_i, h4, i_le, z, i_al]
    · rw [if_neg z]
      have z0 : ¬ nI (s - d) ≤ 0 := nI_nle (by omega) (by omega)
      have ej : j + (1 + flT ch lp k (s - d)) - 1 = j + 1 + flT ch lp k (s - d) - 1 := by omega
      have ih' := ih (s - d) (j + 1) f (by omega) (by omega) (by omega) (by omega) (by omega)
      have hw := m_lf_wait (c := c) (s := s - d) (j := j) h3 h7 hF hF9 h5 hch h4 hlp (by omega) (by omega) (by omega) (F - 1) f (by omega)
      have ew : F * j + F - (F - 1) = F * j + 1 := by omega
      rw [ew, ← Nat.mul_succ] at hw
      rw [ej, ← ih', ← hw]
      simp (disch := omega) only [L_X11_lifeOf_9.eq_2, ft10, h3, ↓reduceIte, e, bd_i, nam_i, e2, z0, inb_l, ck_i, h4, i_le, z, i_al]
