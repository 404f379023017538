/-! the text: the model's names -/
section MN2
variable {n : Nat} {B : Nat → Nat} {τ : St} {s e : Nat}
theorem isX_2 {q : Nat} (hl : e - s = 2) (hq : lnT q = 2) : (isX B s e q = true) = (B s = chT q 0 ∧ B (s + 1) = chT q 1) := by
  unfold isX
  rw [hq, hl]
  simp [eqF]
theorem isX_3 {q : Nat} (hl : e - s = 3) (hq : lnT q = 3) : (isX B s e q = true) = (B s = chT q 0 ∧ B (s + 1) = chT q 1 ∧ B (s + 2) = chT q 2) := by
  unfold isX
  rw [hq, hl]
  simp [eqF]
theorem isX_4 {q : Nat} (hl : e - s = 4) (hq : lnT q = 4) : (isX B s e q = true) = (B s = chT q 0 ∧ B (s + 1) = chT q 1 ∧ B (s + 2) = chT q 2 ∧ B (s + 3) = chT q 3) := by
  unfold isX
  rw [hq, hl]
  simp [eqF]
theorem isX_5 {q : Nat} (hl : e - s = 5) (hq : lnT q = 5) : (isX B s e q = true) = ((B s = chT q 0 ∧ B (s + 1) = chT q 1 ∧ B (s + 2) = chT q 2 ∧ B (s + 3) = chT q 3) ∧ B (s + 4) = chT q 4) := by
  unfold isX
  rw [hq, hl]
  simp [eqF, and_assoc]
theorem isX_7 {q : Nat} (hl : e - s = 7) (hq : lnT q = 7) : (isX B s e q = true) = ((B s = chT q 0 ∧ B (s + 1) = chT q 1 ∧ B (s + 2) = chT q 2 ∧ B (s + 3) = chT q 3) ∧ B (s + 4) = chT q 4 ∧ B (s + 5) = chT q 5 ∧ B (s + 6) = chT q 6) := by
  unfold isX
  rw [hq, hl]
  simp [eqF, and_assoc]
theorem m_name (hT : TMb n B τ) (h9 : τ.1 (40, 0, 0) 9 = nI e) (h10 : τ.1 (40, 0, 0) 10 = nI s) (he : e ≤ n) (hse : s ≤ e) : F_X11_nameNow τ = some (nmN B s e, τ) := by
  have hn := hT.1
  have l2 : lnT 2 = 2 := by decide
  have l0 : lnT 0 = 3 := by decide
  have l3 : lnT 3 = 4 := by decide
  have l4 : lnT 4 = 5 := by decide
  have l5 : lnT 5 = 4 := by decide
  have l6 : lnT 6 = 7 := by decide
  have l7 : lnT 7 = 4 := by decide
  have l8 : lnT 8 = 4 := by decide
  have l9 : lnT 9 = 4 := by decide
  have R0 : ¬ e - s = 3 → F_X11_starts 3 114 111 119 0 τ = some (0, τ) ∧ isX B s e 0 = false := fun h => ⟨m_st0 (len := 3) h9 h10 hse (by omega) (by omega) h, isX_n (by omega)⟩
  have U0 : ¬ e - s = 2 → F_X11_starts 2 117 112 0 0 τ = some (0, τ) ∧ isX B s e 2 = false := fun h => ⟨m_st0 (len := 2) h9 h10 hse (by omega) (by omega) h, isX_n (by omega)⟩
  have F0 : ∀ a b c d, ¬ e - s = 4 → F_X11_starts 4 a b c d τ = some (0, τ) := fun a b c d h => m_st0 (len := 4) h9 h10 hse (by omega) (by omega) h
  have X4 : ¬ e - s = 4 → isX B s e 3 = false ∧ isX B s e 5 = false ∧ isX B s e 7 = false ∧ isX B s e 8 = false ∧ isX B s e 9 = false := fun h => ⟨isX_n (by omega), isX_n (by omega), isX_n (by omega), isX_n (by omega), isX_n (by omega)⟩
  have T0 : ¬ e - s = 5 → F_X11_starts 5 116 101 101 116 τ = some (0, τ) ∧ isX B s e 4 = false := fun h => ⟨m_st0 (len := 5) h9 h10 hse (by omega) (by omega) h, isX_n (by omega)⟩
  have C0 : ¬ e - s = 7 → F_X11_starts 7 99 104 105 109 τ = some (0, τ) ∧ isX B s e 6 = false := fun h => ⟨m_st0 (len := 7) h9 h10 hse (by omega) (by omega) h, isX_n (by omega)⟩
  by_cases L2 : e - s = 2
  · obtain ⟨r1, r2⟩ := R0 (by omega)
    obtain ⟨x3, x5, x7, x8, x9⟩ := X4 (by omega)
    obtain ⟨t1, t2⟩ := T0 (by omega)
    obtain ⟨c1, c2⟩ := C0 (by omega)
    have f0 := fun a b c d => F0 a b c d (by omega)
    have U : F_X11_starts 2 117 112 0 0 τ = some (if B s = 117 ∧ B (s + 1) = 112 then 1 else 0, τ) := m_st2 (a := 117) (b := 112) hT h9 h10 he L2 (by omega) (by omega)
    have x2 : (isX B s e 2 = true) = (B s = 117 ∧ B (s + 1) = 112) := isX_2 L2 l2
    by_cases z : B s = 117 ∧ B (s + 1) = 112 <;> simp only [nmN, F_X11_nameNow, r1, bd_i, ↓reduceIte, U, z, and_self, ft10, f0, t1, c1, r2, x2, x3, x5, x7, x8, x9, t2, c2, Bool.false_eq_true]
  · obtain ⟨u1, u2⟩ := U0 L2
    by_cases L3 : e - s = 3
    · obtain ⟨x3, x5, x7, x8, x9⟩ := X4 (by omega)
      obtain ⟨t1, t2⟩ := T0 (by omega)
      obtain ⟨c1, c2⟩ := C0 (by omega)
      have f0 := fun a b c d => F0 a b c d (by omega)
      have Rr : F_X11_starts 3 114 111 119 0 τ = some (if B s = 114 ∧ B (s + 1) = 111 ∧ B (s + 2) = 119 then 1 else 0, τ) := m_st3 (a := 114) (b := 111) (c := 119) hT h9 h10 he L3 (by omega) (by omega) (by omega)
      have x0 : (isX B s e 0 = true) = (B s = 114 ∧ B (s + 1) = 111 ∧ B (s + 2) = 119) := isX_3 L3 l0
      by_cases z : B s = 114 ∧ B (s + 1) = 111 ∧ B (s + 2) = 119 <;> simp only [nmN, F_X11_nameNow, Rr, bd_i, ↓reduceIte, z, and_self, ft10, u1, f0, t1, c1, x0, u2, x3, x5, x7, x8, x9, t2, c2, Bool.false_eq_true]
    · obtain ⟨r1, r2⟩ := R0 L3
      by_cases L4 : e - s = 4
      · obtain ⟨t1, t2⟩ := T0 (by omega)
        obtain ⟨c1, c2⟩ := C0 (by omega)
        have D : F_X11_starts 4 100 111 119 110 τ = some (if B s = 100 ∧ B (s + 1) = 111 ∧ B (s + 2) = 119 ∧ B (s + 3) = 110 then 1 else 0, τ) := m_st4 (len := 4) (a := 100) (b := 111) (c := 119) (d := 110) hT h9 h10 he L4 (by omega) (by omega) (by omega) (by omega) (by omega) (by omega)
        have Lp : F_X11_starts 4 108 101 97 112 τ = some (if B s = 108 ∧ B (s + 1) = 101 ∧ B (s + 2) = 97 ∧ B (s + 3) = 112 then 1 else 0, τ) := m_st4 (len := 4) (a := 108) (b := 101) (c := 97) (d := 112) hT h9 h10 he L4 (by omega) (by omega) (by omega) (by omega) (by omega) (by omega)
        have H : F_X11_starts 4 104 105 115 115 τ = some (if B s = 104 ∧ B (s + 1) = 105 ∧ B (s + 2) = 115 ∧ B (s + 3) = 115 then 1 else 0, τ) := m_st4 (len := 4) (a := 104) (b := 105) (c := 115) (d := 115) hT h9 h10 he L4 (by omega) (by omega) (by omega) (by omega) (by omega) (by omega)
        have Fm : F_X11_starts 4 102 105 108 109 τ = some (if B s = 102 ∧ B (s + 1) = 105 ∧ B (s + 2) = 108 ∧ B (s + 3) = 109 then 1 else 0, τ) := m_st4 (len := 4) (a := 102) (b := 105) (c := 108) (d := 109) hT h9 h10 he L4 (by omega) (by omega) (by omega) (by omega) (by omega) (by omega)
        have Ro : F_X11_starts 4 114 111 108 108 τ = some (if B s = 114 ∧ B (s + 1) = 111 ∧ B (s + 2) = 108 ∧ B (s + 3) = 108 then 1 else 0, τ) := m_st4 (len := 4) (a := 114) (b := 111) (c := 108) (d := 108) hT h9 h10 he L4 (by omega) (by omega) (by omega) (by omega) (by omega) (by omega)
        have x3 : (isX B s e 3 = true) = (B s = 100 ∧ B (s + 1) = 111 ∧ B (s + 2) = 119 ∧ B (s + 3) = 110) := isX_4 L4 l3
        have x5 : (isX B s e 5 = true) = (B s = 108 ∧ B (s + 1) = 101 ∧ B (s + 2) = 97 ∧ B (s + 3) = 112) := isX_4 L4 l5
        have x7 : (isX B s e 7 = true) = (B s = 104 ∧ B (s + 1) = 105 ∧ B (s + 2) = 115 ∧ B (s + 3) = 115) := isX_4 L4 l7
        have x8 : (isX B s e 8 = true) = (B s = 102 ∧ B (s + 1) = 105 ∧ B (s + 2) = 108 ∧ B (s + 3) = 109) := isX_4 L4 l8
        have x9 : (isX B s e 9 = true) = (B s = 114 ∧ B (s + 1) = 111 ∧ B (s + 2) = 108 ∧ B (s + 3) = 108) := isX_4 L4 l9
        have rhs : nmN B s e = if isX B s e 3 then 1 else if isX B s e 5 then 4 else if isX B s e 7 then 6 else if isX B s e 8 then 7 else if isX B s e 9 then 8 else -4 := by
          unfold nmN
          simp only [r2, u2, t2, c2, Bool.false_eq_true, ↓reduceIte]
        rw [rhs, F_X11_nameNow, r1, bd_i, if_pos rfl, u1, bd_i, if_pos rfl, D, bd_i]
        by_cases z1 : B s = 100 ∧ B (s + 1) = 111 ∧ B (s + 2) = 119 ∧ B (s + 3) = 110
        · rw [if_pos z1, if_neg (by decide), if_pos (by rw [x3]; exact z1)]
        · rw [if_neg z1, if_pos rfl, if_neg (show ¬ isX B s e 3 = true by rw [x3]; exact z1), t1, bd_i, if_pos rfl, Lp, bd_i]
          by_cases z2 : B s = 108 ∧ B (s + 1) = 101 ∧ B (s + 2) = 97 ∧ B (s + 3) = 112
          · rw [if_pos z2, if_neg (by decide), if_pos (by rw [x5]; exact z2)]
          · rw [if_neg z2, if_pos rfl, if_neg (show ¬ isX B s e 5 = true by rw [x5]; exact z2), c1, bd_i, if_pos rfl, H, bd_i]
            by_cases z3 : B s = 104 ∧ B (s + 1) = 105 ∧ B (s + 2) = 115 ∧ B (s + 3) = 115
            · rw [if_pos z3, if_neg (by decide), if_pos (by rw [x7]; exact z3)]
            · rw [if_neg z3, if_pos rfl, if_neg (show ¬ isX B s e 7 = true by rw [x7]; exact z3), Fm, bd_i]
              by_cases z4 : B s = 102 ∧ B (s + 1) = 105 ∧ B (s + 2) = 108 ∧ B (s + 3) = 109
              · rw [if_pos z4, if_neg (by decide), if_pos (by rw [x8]; exact z4)]
              · rw [if_neg z4, if_pos rfl, if_neg (show ¬ isX B s e 8 = true by rw [x8]; exact z4), Ro, bd_i]
                by_cases z5 : B s = 114 ∧ B (s + 1) = 111 ∧ B (s + 2) = 108 ∧ B (s + 3) = 108
                · rw [if_pos z5, if_neg (by decide), if_pos (by rw [x9]; exact z5)]
                · rw [if_neg z5, if_pos rfl, if_neg (show ¬ isX B s e 9 = true by rw [x9]; exact z5)]
      · obtain ⟨x3, x5, x7, x8, x9⟩ := X4 L4
        have f0 := fun a b c d => F0 a b c d L4
        by_cases L5 : e - s = 5
        · obtain ⟨c1, c2⟩ := C0 (by omega)
          have T : F_X11_starts 5 116 101 101 116 τ = some (if B s = 116 ∧ B (s + 1) = 101 ∧ B (s + 2) = 101 ∧ B (s + 3) = 116 then 1 else 0, τ) := m_st4 (len := 5) (a := 116) (b := 101) (c := 101) (d := 116) hT h9 h10 he L5 (by omega) (by omega) (by omega) (by omega) (by omega) (by omega)
          have x4 : (isX B s e 4 = true) = ((B s = 116 ∧ B (s + 1) = 101 ∧ B (s + 2) = 101 ∧ B (s + 3) = 116) ∧ B (s + 4) = 104) := isX_5 L5 l4
          have b4 := (hT.2.2 (s + 4) (by omega)).1
          have k4 := m_lk hT (show s + 4 < n by omega)
          have rhs : nmN B s e = if isX B s e 4 then 2 else -4 := by
            unfold nmN
            simp only [r2, u2, x3, x5, x7, x8, x9, c2, Bool.false_eq_true, ↓reduceIte]
          rw [rhs, F_X11_nameNow, r1, bd_i, if_pos rfl, u1, bd_i, if_pos rfl, f0, bd_i, if_pos rfl, T, bd_i]
          by_cases z : B s = 116 ∧ B (s + 1) = 101 ∧ B (s + 2) = 101 ∧ B (s + 3) = 116
          · rw [if_pos z, if_neg (by decide), h10, i_al, k4, bd_i]
            by_cases z4 : B (s + 4) = 104
            · rw [if_pos (by rw [z4]; rfl), if_pos (by rw [x4]; exact ⟨z, z4⟩)]
            · rw [if_neg (by rw [i_eqr (by omega) (by decide)]; exact z4), if_neg (show ¬ isX B s e 4 = true by rw [x4]; exact fun q => z4 q.2), f0, bd_i, if_pos rfl, c1, bd_i, if_pos rfl, f0, bd_i, if_pos rfl, f0, bd_i, if_pos rfl, f0, bd_i, if_pos rfl]
          · rw [if_neg z, if_pos rfl, if_neg (show ¬ isX B s e 4 = true by rw [x4]; exact fun q => z q.1), f0, bd_i, if_pos rfl, c1, bd_i, if_pos rfl, f0, bd_i, if_pos rfl, f0, bd_i, if_pos rfl, f0, bd_i, if_pos rfl]
        · obtain ⟨t1, t2⟩ := T0 L5
          by_cases L7 : e - s = 7
          · have C : F_X11_starts 7 99 104 105 109 τ = some (if B s = 99 ∧ B (s + 1) = 104 ∧ B (s + 2) = 105 ∧ B (s + 3) = 109 then 1 else 0, τ) := m_st4 (len := 7) (a := 99) (b := 104) (c := 105) (d := 109) hT h9 h10 he L7 (by omega) (by omega) (by omega) (by omega) (by omega) (by omega)
            have x6 : (isX B s e 6 = true) = ((B s = 99 ∧ B (s + 1) = 104 ∧ B (s + 2) = 105 ∧ B (s + 3) = 109) ∧ B (s + 4) = 110 ∧ B (s + 5) = 101 ∧ B (s + 6) = 121) := isX_7 L7 l6
            have b4 := (hT.2.2 (s + 4) (by omega)).1
            have b5 := (hT.2.2 (s + 5) (by omega)).1
            have b6 := (hT.2.2 (s + 6) (by omega)).1
            have k4 := m_lk hT (show s + 4 < n by omega)
            have k5 := m_lk hT (show s + 5 < n by omega)
            have k6 := m_lk hT (show s + 6 < n by omega)
            have rhs : nmN B s e = if isX B s e 6 then 5 else -4 := by
              unfold nmN
              simp only [r2, u2, x3, x5, x7, x8, x9, t2, Bool.false_eq_true, ↓reduceIte]
            rw [rhs, F_X11_nameNow, r1, bd_i, if_pos rfl, u1, bd_i, if_pos rfl, f0, bd_i, if_pos rfl, t1, bd_i, if_pos rfl, f0, bd_i, if_pos rfl, C, bd_i]
            by_cases z : B s = 99 ∧ B (s + 1) = 104 ∧ B (s + 2) = 105 ∧ B (s + 3) = 109
            · rw [if_pos z, if_neg (by decide), h10, i_al, k4, bd_i]
              by_cases z4 : B (s + 4) = 110
              · rw [if_pos (by rw [z4]; rfl), h10, i_al, k5, bd_i]
                by_cases z5 : B (s + 5) = 101
                · rw [if_pos (by rw [z5]; rfl), h10, i_al, k6, bd_i]
                  by_cases z6 : B (s + 6) = 121
                  · rw [if_pos (by rw [z6]; rfl), if_pos (by rw [x6]; exact ⟨z, z4, z5, z6⟩)]
                  · rw [if_neg (by rw [i_eqr (by omega) (by decide)]; exact z6), if_neg (show ¬ isX B s e 6 = true by rw [x6]; exact fun q => z6 q.2.2.2), f0, bd_i, if_pos rfl, f0, bd_i, if_pos rfl, f0, bd_i, if_pos rfl]
                · rw [if_neg (by rw [i_eqr (by omega) (by decide)]; exact z5), if_neg (show ¬ isX B s e 6 = true by rw [x6]; exact fun q => z5 q.2.2.1), f0, bd_i, if_pos rfl, f0, bd_i, if_pos rfl, f0, bd_i, if_pos rfl]
              · rw [if_neg (by rw [i_eqr (by omega) (by decide)]; exact z4), if_neg (show ¬ isX B s e 6 = true by rw [x6]; exact fun q => z4 q.2.1), f0, bd_i, if_pos rfl, f0, bd_i, if_pos rfl, f0, bd_i, if_pos rfl]
            · rw [if_neg z, if_pos rfl, if_neg (show ¬ isX B s e 6 = true by rw [x6]; exact fun q => z q.1), f0, bd_i, if_pos rfl, f0, bd_i, if_pos rfl, f0, bd_i, if_pos rfl]
          · obtain ⟨c1, c2⟩ := C0 L7
            simp only [nmN, F_X11_nameNow, r1, u1, f0, t1, c1, bd_i, ↓reduceIte, x3, x5, x7, x8, x9, r2, u2, t2, c2, Bool.false_eq_true]
end MN2
