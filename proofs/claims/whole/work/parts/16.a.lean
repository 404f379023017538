/-! lives -/
theorem m_lifeT {σ : St} {c : Int32} {l : Nat} (hl : 0 < l) (hl2 : l < 2 ^ 20) (hh : ∀ s, s < 2 ^ 20 → F_X11_hisses (nI s) c σ = some (nI (if l ≤ s then l else s), σ)) : ∀ (k s t fu : Nat), s ≤ k → 0 < s → s < 2 ^ 20 → k + 1 < fu → L_X11_lifeOf_9 c 0 fu (nI s) (nI t) 1 σ = some (nI (t + (s + l - 1) / l), σ) := by
  intro k
  induction k with
  | zero => intro s t fu h1 h2; omega
  | succ k ih =>
    intro s t fu hs h0 hs2 hf
    obtain ⟨f, rfl⟩ : ∃ f, fu = f + 2 := ⟨fu - 2, by omega⟩
    have hle : ¬ (1 : Int32) = 0 := by decide
    by_cases z : s ≤ l
    · have e1 : (if l ≤ s then l else s) = s := by split <;> omega
      have e2 : nI s - nI s = nI 0 := by rw [pk_sub (Nat.le_refl s), Nat.sub_self]
      have e3 : nI 0 ≤ 0 := by decide
      have e4 : (s + l - 1) / l = 1 := by
        rw [Nat.div_eq_of_lt_le] <;> omega
      have e5 := hh s hs2
      rw [e1] at e5
      simp (disch := omega) only [L_X11_lifeOf_9, hle, ↓reduceIte, e5, bd_i, nam_i, e2, e3, i_al, e4]
    · have e1 : (if l ≤ s then l else s) = l := if_pos (by omega)
      have e2 : nI s - nI l = nI (s - l) := pk_sub (by omega)
      have e3 : ¬ nI (s - l) ≤ 0 := nI_nle (by omega) (by omega)
      have e4 : (s + l - 1) / l = 1 + (s - l + l - 1) / l := by
        have a : s + l - 1 = (s - l + l - 1) + l := by omega
        rw [a, Nat.add_div_right _ hl]; omega
      have e5 := hh s hs2
      rw [e1] at e5
      have ih' := ih (s - l) (t + 1) (f + 1) (by omega) (by omega) (by omega) (by omega)
      rw [Nat.add_assoc, ← e4] at ih'
      rw [← ih']
      simp (disch := omega) only [L_X11_lifeOf_9.eq_2, hle, ↓reduceIte, e5, bd_i, nam_i, e2, e3, i_al]
theorem x_lifeT {σ : St} {q l s : Nat} {c : Int32} (hl : 0 < l) (hl2 : l < 2 ^ 20) (hs2 : s < 2 ^ 20) (hh : F_X5_lossTouching q c σ = some (nI l, σ)) : F_X5_lifeTouching q (nI s) c σ = some (nI ((s + l - 1) / l), σ) := by
  have e1 : ¬ nI l ≤ 0 := nI_nle hl (by omega)
  have e2 : ¬ nI l = 0 := nI_ne0 hl (by omega)
  have e3 : nI (s + l) - 1 = nI (s + l - 1) := pk_sub (b := 1) (by omega)
  rw [F_X5_lifeTouching, hh, bd_i, if_neg e1]
  simp only [e2, not_false_eq_true, decide_true, ck_i, nI_add, e3]
  rw [pk_div (by omega) hl (by omega)]
