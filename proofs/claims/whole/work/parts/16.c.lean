/-! life floating: the model's loop -/
theorem m_lf_th {σ : St} {F ch : Nat} (h7 : σ.1 (43, 0, 0) 7 = nI F) (hF : 1 ≤ F) (hF9 : F ≤ 9) (h5 : σ.1 (43, 0, 0) 5 = nI ch) (hch : ch ≤ 99) {s t : Nat} (hs : s < 2 ^ 20) (ht : t < 2 ^ 20) : F_X11_thins (nI s) (nI t) σ = some (nI (if t % F = 0 then (if flD ch s ≤ s then flD ch s else s) else 0), σ) := by
  have h70 : ¬ σ.1 (43, 0, 0) 7 = 0 := by rw [h7]; exact nI_ne0 (by omega) (by omega)
  rw [m_thins h70]
  unfold thn
  rw [h7, pk_rem (by omega) (by omega) (by omega), h5]
  have hm : t % F < F := Nat.mod_lt _ (by omega)
  by_cases z : t % F = 0
  · rw [z, if_pos rfl, if_pos (by rfl)]
    unfold flD
    by_cases z2 : s < ch
    · rw [if_pos z2, if_pos (nI_lt z2 (by omega)), show (1 : Int32) = nI 1 from rfl, lessI_n (by omega) (by omega)]
    · rw [if_neg z2, if_neg (nI_nlt (by omega) (by omega)), show (2 : Int32) = nI 2 from rfl, lessI_n (by omega) (by omega)]
  · rw [if_neg z, if_neg (nI_ne0 (by omega) (by omega))]
    rfl
theorem m_lf_idle {σ : St} {c c3 : Int32} {F ch lp : Nat} (h3 : ¬ c3 = 0) (h7 : σ.1 (43, 0, 0) 7 = nI F) (hF : 1 ≤ F) (hF9 : F ≤ 9) (h5 : σ.1 (43, 0, 0) 5 = nI ch) (hch : ch ≤ 99) (h4 : σ.1 (43, 0, 0) 4 = nI lp) (hlp : lp ≤ 9) {s t f : Nat} (hs : s < 2 ^ 20) (ht : t < 2 ^ 20) (hz : ¬ t % F = 0) (hsl : lp < s) : L_X11_lifeOf_9 c c3 (f + 1) (nI s) (nI t) 1 σ = L_X11_lifeOf_9 c c3 f (nI s) (nI (t + 1)) 1 σ := by
  have e := m_lf_th h7 hF hF9 h5 hch hs ht
  rw [if_neg hz] at e
  have e2 : nI s - nI 0 = nI s := pk_sub (b := 0) (by omega)
  have e3 : ¬ nI s ≤ 0 := nI_nle (by omega) (by omega)
  have e4 : ¬ s ≤ lp := by omega
  simp (disch := omega) only [L_X11_lifeOf_9.eq_2, ft10, h3, ↓reduceIte, e, bd_i, nam_i, e2, e3, inb_l, ck_i, h4, i_le, e4, i_al]
