/-! life floating -/
def flD (ch left : Nat) : Nat := if left < ch then 1 else 2
def flT (ch lp : Nat) : Nat → Nat → Nat
  | 0, _ => 1
  | k + 1, left => if left - flD ch left ≤ lp then 1 else 1 + flT ch lp k (left - flD ch left)
theorem x_lifeFL {σ : St} {q ch lp : Nat} (h5 : σ.1 (4, q, 0) 5 = nI ch) (hch : ch ≤ 99) (h4 : σ.1 (4, q, 0) 4 = nI lp) (hlp : lp ≤ 9) (kx : Int32 → St → Option (Int32 × St)) : ∀ (k left t fu : Nat), left ≤ k → 0 < left → t + left ≤ 60 → k < fu → L_X5_lifeFloating_4 q fu (nI left) (nI t) σ kx = kx (nI (t + flT ch lp k left)) σ := by
  intro k
  induction k with
  | zero => intro left t fu h1 h2; omega
  | succ k ih =>
    intro left t fu h1 h2 h3 hf
    obtain ⟨f, rfl⟩ : ∃ f, fu = f + 1 := ⟨fu - 1, by omega⟩
    have hd : (if nI left < nI ch then (1 : Int32) else 2) = nI (flD ch left) := by
      unfold flD
      by_cases z : left < ch
      · rw [if_pos z, if_pos (nI_lt z (by omega))]; rfl
      · rw [if_neg z, if_neg (nI_nlt (by omega) (by omega))]; rfl
    have hd1 : 1 ≤ flD ch left ∧ flD ch left ≤ 2 := by unfold flD; split <;> omega
    have hlf := x_lossF (q := q) (σ := σ) (s := nI left)
    rw [h5, hd] at hlf
    rw [flT]
    generalize flD ch left = d at *
    have hcmp : (nI left - nI d ≤ nI lp) ↔ left - d ≤ lp := by
      rcases Nat.lt_or_ge left d with z | z
      · have := pk_sneg (a := left) (b := d) (by omega) z
        have e : left - d ≤ lp := by omega
        refine ⟨fun _ => e, fun _ => ?_⟩
        have p := nI_pos' (n := lp) (by omega)
        rw [Int32.lt_iff_toInt_lt] at this
        rw [Int32.le_iff_toInt_le] at p ⊢
        omega
      · rw [pk_sub z, i_le (by omega) (by omega)]
    by_cases z : left - d ≤ lp
    · simp (disch := omega) only [L_X5_lifeFloating_4, hlf, bd_i, nam_i, inb_l, ck_i, h4, hcmp, z, ↓reduceIte, i_al]
    · have e : nI left - nI d = nI (left - d) := pk_sub (by omega)
      have h60 : t + 1 < 60 := by omega
      have ih' := ih (left - d) (t + 1) f (by omega) (by omega) (by omega) (by omega)
      rw [Nat.add_assoc] at ih'
      rw [if_neg z, ← ih']
      simp (disch := omega) only [L_X5_lifeFloating_4, hlf, bd_i, nam_i, inb_l, ck_i, h4, i_le, z, ↓reduceIte, i_al, i_ltr, h60, e]
