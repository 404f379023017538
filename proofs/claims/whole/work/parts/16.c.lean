/-! life floating: the model's loop -/
theorem m_lf_th {σ : St} {F ch : Nat} (h7 : σ.1 (43, 0, 0) 7 = nI F) (hF : 1 ≤ F) (hF9 : F ≤ 9) (h5 : σ.1 (43, 0, 0) 5 = nI ch) (hch : ch ≤ 99) {s t : Nat} (hs : s < 2 ^ 20) (ht : t < 2 ^ 20) : F_X11_thins (nI s) (nI t) σ = some (nI (if t % F = 0 then (if flD ch s ≤ s then flD ch s else s) else 0), σ) := by
  have h70 : ¬ σ.1 (43, 0, 0) 7 = 0 := by rw [h7]; exact nI_ne0 (by omega) (by omega)
  rw [m_thins h70]
  unfold thn
  rw [h7, pk_rem (by omega) (by omega) (by omega), h5]
  have hm : t % F < F := Nat.mod_lt _ (by omega)
  by_cases z : t % F = 0
  · rw [z, if_pos rfl, if_pos (by rfl)]
    unfold flD
    by_cases z2 : s < ch
    · rw [if_pos z2, if_pos (nI_lt z2 (by omega)), show (1 : Int32) = nI 1 from rfl, lessI_n (by omega) (by omega)]
    · rw [if_neg z2, if_neg (nI_nlt (by omega) (by omega)), show (2 : Int32) = nI 2 from rfl, lessI_n (by omega) (by omega)]
  · rw [if_neg z, if_neg (nI_ne0 (by omega) (by omega))]
    rfl
