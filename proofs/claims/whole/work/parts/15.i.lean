/-! keep, back -/
section FXD
variable {q d c : Nat} {x : St}
theorem fx_c (h : c < 96) : fx q x c = x.1 (8, q, 0) c := if_pos h
theorem fx_d (k : Nat) (hd : d < 12) (hk : k < 6) : fx q x (96 + 12 * k + d) = x.1 (10, q, d) k := by
  have e1 : (96 + 12 * k + d - 96) % 12 = d := by omega
  have e2 : (96 + 12 * k + d - 96) / 12 = k := by omega
  rw [fx, if_neg (by omega), if_pos (by omega), e1, e2]
theorem fx_d0 (hd : d < 12) : x.1 (10, q, d) 0 = fx q x (96 + d) := (fx_d 0 hd (by omega)).symm
theorem fx_d1 (hd : d < 12) : x.1 (10, q, d) 1 = fx q x (108 + d) := (fx_d 1 hd (by omega)).symm
theorem fx_d2 (hd : d < 12) : x.1 (10, q, d) 2 = fx q x (120 + d) := (fx_d 2 hd (by omega)).symm
theorem fx_d3 (hd : d < 12) : x.1 (10, q, d) 3 = fx q x (132 + d) := (fx_d 3 hd (by omega)).symm
theorem fx_d4 (hd : d < 12) : x.1 (10, q, d) 4 = fx q x (144 + d) := (fx_d 4 hd (by omega)).symm
theorem fx_d5 (hd : d < 12) : x.1 (10, q, d) 5 = fx q x (156 + d) := (fx_d 5 hd (by omega)).symm
end FXD
theorem x_takeD {q q' d : Nat} {x : St} {g : Nat → Int32} (hq : q' ≠ q) (hd : d < 12) : F_X0_takeAll q d q' d (px q x g) = some ((), px q x (upd (upd (upd (upd (upd (upd g (96 + d) (fx q' x (96 + d))) (108 + d) (fx q' x (108 + d))) (120 + d) (fx q' x (120 + d))) (132 + d) (fx q' x (132 + d))) (144 + d) (fx q' x (144 + d))) (156 + d) (fx q' x (156 + d)))) := by
  simp (disch := omega) only [F_X0_takeAll, nam_i, fx_pq hq, fx_d0, fx_d1, fx_d2, fx_d3, fx_d4, fx_d5, pu_d0, pu_d1, pu_d2, pu_d3, pu_d4, pu_d5]
theorem x_takeL {q q' : Nat} {x : St} (hq : q' ≠ q) (kx : St → Option (Unit × St)) : ∀ (k i fu : Nat) (g : Nat → Int32), i + k = 12 → k < fu → (∀ j, j < 96 → g j = fx q' x j) → (∀ j, 96 ≤ j → j < 168 → (j - 96) % 12 < i → g j = fx q' x j) → ∃ g', (∀ j, j < 168 → g' j = fx q' x j) ∧ L_X6_takeAll_17 q q' fu (nI i) (px q x g) kx = kx (px q x g') := by
  intro k
  induction k with
  | zero =>
    intro i fu g hi hf h1 h2
    obtain ⟨f, rfl⟩ : ∃ f, fu = f + 1 := ⟨fu - 1, by omega⟩
    have : i = 12 := by omega
    subst this
    refine ⟨g, fun j hj => ?_, ?_⟩
    · by_cases z : j < 96
      · exact h1 j z
      · exact h2 j (by omega) hj (by omega)
    · simp (disch := omega) only [L_X6_takeAll_17, i_lel, Nat.le_refl, ↓reduceIte]
  | succ k ih =>
    intro i fu g hi hf h1 h2
    obtain ⟨f, rfl⟩ : ∃ f, fu = f + 1 := ⟨fu - 1, by omega⟩
    have hl : ¬ 12 ≤ i := by omega
    obtain ⟨g', a1, a2⟩ := ih (i + 1) f (upd (upd (upd (upd (upd (upd g (96 + i) (fx q' x (96 + i))) (108 + i) (fx q' x (108 + i))) (120 + i) (fx q' x (120 + i))) (132 + i) (fx q' x (132 + i))) (144 + i) (fx q' x (144 + i))) (156 + i) (fx q' x (156 + i))) (by omega) (by omega) (fun j hj => by
        simp (disch := omega) only [pk_un]
        exact h1 j hj) (fun j hj1 hj2 hj3 => by
        by_cases z : (j - 96) % 12 < i
        · simp (disch := omega) only [pk_un]
          exact h2 j hj1 hj2 z
        · have : j = 96 + i ∨ j = 108 + i ∨ j = 120 + i ∨ j = 132 + i ∨ j = 144 + i ∨ j = 156 + i := by omega
          rcases this with rfl | rfl | rfl | rfl | rfl | rfl <;> simp (disch := omega) only [pk_un, pk_us])
    refine ⟨g', a1, ?_⟩
    rw [← a2]
    simp (disch := omega) only [L_X6_takeAll_17, i_lel, hl, ↓reduceIte, inb_i, ck_i, nI_clamp, x_takeD hq, bd_i, nam_i, i_al]
theorem px_cells {q : Nat} {x : St} {g F : Nat → Int32} (hF : ∀ k, 96 ≤ k → F k = x.1 (8, q, 0) k) : uR (px q x g) (8, q, 0) F = px q x (fun j => if j < 96 then F j else g j) := by
  refine Prod.ext ?_ rfl
  funext d k
  obtain ⟨a, b, c⟩ := d
  simp only [uR, px]
  by_cases e : ((a, b, c) : Id3) = (8, q, 0)
  · rw [if_pos e]
    obtain ⟨rfl, rfl, rfl⟩ : a = 8 ∧ b = q ∧ c = 0 := by
      have := Prod.mk.inj e
      exact ⟨this.1, (Prod.mk.inj this.2).1, (Prod.mk.inj this.2).2⟩
    by_cases hk : k < 96
    · rw [ps_c hk]
      simp only [hk, if_true]
    · have : ps b (8, b, 0) k = none := by simp [ps, hk]
      rw [this]
      exact hF k (by omega)
  · rw [if_neg e]
    cases h : ps q (a, b, c) k with
    | none => rfl
    | some j =>
      have : ¬ j < 96 := by
        intro hj
        have := ps_inj (ps_c (q := q) hj) h
        exact e this.1
      simp only [this, if_false]
def tailK (q q' : Nat) (σ9 : St) : Option (Unit × St) := nam (uI σ9 (7, q, 0) 2 (σ9.1 (7, q', 0) 2)) fun σ10 => nam (uI σ10 (7, q, 0) 3 (σ10.1 (7, q', 0) 3)) fun σ11 => nam (uI σ11 (7, q, 0) 4 (σ11.1 (7, q', 0) 4)) fun σ12 => nam (uI σ12 (7, q, 0) 5 (σ12.1 (7, q', 0) 5)) fun σ13 => ck (decide ((σ13.1 (7, q', 0) 6) = 0 ∨ (σ13.1 (7, q', 0) 6) = 1)) (nam (uI σ13 (7, q, 0) 6 (σ13.1 (7, q', 0) 6)) fun σ15 => nam (uI σ15 (7, q, 0) 7 (σ15.1 (7, q', 0) 7)) fun σ16 => nam (uI σ16 (7, q, 0) 8 (σ16.1 (7, q', 0) 8)) fun σ17 => nam (uI σ17 (7, q, 0) 9 (σ17.1 (7, q', 0) 9)) fun σ18 => nam (uI σ18 (7, q, 0) 10 (σ18.1 (7, q', 0) 10)) fun σ19 => some ((), σ19))
theorem takeAll_u (q q' : Nat) (σ : St) : F_X6_takeAll q q' σ = ck (cpk (0 : Int32) (0 : Int32) (96 : Int32) 96 96) (nam (uR σ (8, q, 0) (va_cpy (σ.1 (8, q', 0)) (σ.1 (8, q, 0)) (0 : Int32).toNatClampNeg (0 : Int32).toNatClampNeg (96 : Int32).toNatClampNeg)) fun σ2 => L_X6_takeAll_17 q q' FU (0 : Int32) σ2 (tailK q q')) := rfl
def tailG (F g : Nat → Int32) : Nat → Int32 := upd (upd (upd (upd (upd (upd (upd (upd (upd g 176 (F 176)) 169 (F 169)) 168 (F 168)) 175 (F 175)) 170 (F 170)) 171 (F 171)) 172 (F 172)) 173 (F 173)) 174 (F 174)
theorem tail_k {q q' : Nat} {x : St} {g : Nat → Int32} (hq : q' ≠ q) (hfl : fx q' x 170 = 0 ∨ fx q' x 170 = 1) : tailK q q' (px q x g) = some ((), px q x (tailG (fx q' x) g)) := by
  have hd : decide (fx q' x 170 = 0 ∨ fx q' x 170 = 1) = true := decide_eq_true hfl
  have s4 : x.1 (7, q', 0) 4 = fx q' x 168 := rfl
  have s3 : x.1 (7, q', 0) 3 = fx q' x 169 := rfl
  have s6 : x.1 (7, q', 0) 6 = fx q' x 170 := rfl
  have s7 : x.1 (7, q', 0) 7 = fx q' x 171 := rfl
  have s8 : x.1 (7, q', 0) 8 = fx q' x 172 := rfl
  have s9 : x.1 (7, q', 0) 9 = fx q' x 173 := rfl
  have s10 : x.1 (7, q', 0) 10 = fx q' x 174 := rfl
  have s5 : x.1 (7, q', 0) 5 = fx q' x 175 := rfl
  have s2 : x.1 (7, q', 0) 2 = fx q' x 176 := rfl
  have e7 : ∀ g', (px q x g').1 (7, q', 0) = x.1 (7, q', 0) := fun g' => px_q hq
  simp only [tailK, tailG, nam_i, e7, s2, s3, s4, s5, s6, s7, s8, s9, s10, hd, ck_i, pu_s2, pu_s3, pu_s4, pu_s5, pu_s6, pu_s7, pu_s8, pu_s9, pu_s10]
theorem x_takeAll {q q' : Nat} {x : St} (hq : q' ≠ q) (hfl : fx q' x 170 = 0 ∨ fx q' x 170 = 1) : ∃ g', (∀ j, j ≤ 176 → g' j = fx q' x j) ∧ F_X6_takeAll q q' x = some ((), px q x g') := by
  have c0 : (0 : Int32).toNatClampNeg = 0 := by decide
  have c96 : (96 : Int32).toNatClampNeg = 96 := by decide
  have ec : cpk (0 : Int32) (0 : Int32) (96 : Int32) 96 96 = true := by decide
  have hcells : uR x (8, q, 0) (va_cpy (x.1 (8, q', 0)) (x.1 (8, q, 0)) 0 0 96) = px q x (fun j => if j < 96 then va_cpy (x.1 (8, q', 0)) (x.1 (8, q, 0)) 0 0 96 j else fx q x j) := by
    have := px_cells (q := q) (x := x) (g := fx q x) (F := va_cpy (x.1 (8, q', 0)) (x.1 (8, q, 0)) 0 0 96) (fun k hk => pk_cpy_out (Or.inr (by omega)))
    rw [px_fx] at this
    exact this
  obtain ⟨g1, a1, a2⟩ := x_takeL (q := q) (q' := q') (x := x) hq (tailK q q') 12 0 FU (fun j => if j < 96 then va_cpy (x.1 (8, q', 0)) (x.1 (8, q, 0)) 0 0 96 j else fx q x j) (by omega) (by unfold FU; omega) (fun j hj => by
      show (if j < 96 then _ else _) = _
      rw [if_pos hj, fx_c hj, sb_cpy0 hj]) (fun j h1 h2 h3 => by omega)
  refine ⟨tailG (fx q' x) g1, ?_, ?_⟩
  · intro j hj
    unfold tailG
    by_cases z : j < 168
    · simp (disch := omega) only [pk_un]
      exact a1 j z
    · have : j = 168 ∨ j = 169 ∨ j = 170 ∨ j = 171 ∨ j = 172 ∨ j = 173 ∨ j = 174 ∨ j = 175 ∨ j = 176 := by omega
      rcases this with rfl | rfl | rfl | rfl | rfl | rfl | rfl | rfl | rfl <;> simp (disch := omega) only [pk_un, pk_us]
  · rw [takeAll_u, ec, ck_i, nam_i, c0, c96, hcells]
    refine Eq.trans a2 ?_
    exact tail_k hq hfl
def cpG (to of i : Nat) (g : Nat → Int32) : Nat → Int32 := fun j => if to + i ≤ j ∧ j < to + 192 then g (of + (j - to)) else g j
theorem m_copyL {m : St} {to of : Nat} (h1 : to ≤ 384) (h2 : of ≤ 384) (hd : to + 192 ≤ of ∨ of + 192 ≤ to) : ∀ (k i fu : Nat) (g : Nat → Int32), i + k = 192 → k < fu → L_X11_copies_2 (nI to) (nI of) fu (nI i) (pm m g) = some ((), pm m (cpG to of i g)) := by
  intro k
  induction k with
  | zero =>
    intro i fu g hi hf
    obtain ⟨f, rfl⟩ : ∃ f, fu = f + 1 := ⟨fu - 1, by omega⟩
    have : i = 192 := by omega
    subst this
    have e : cpG to of 192 g = g := by
      funext j
      exact if_neg (by omega)
    rw [e]
    simp (disch := omega) only [L_X11_copies_2, i_lel, Nat.le_refl, ↓reduceIte]
  | succ k ih =>
    intro i fu g hi hf
    obtain ⟨f, rfl⟩ : ∃ f, fu = f + 1 := ⟨fu - 1, by omega⟩
    have hl : ¬ 192 ≤ i := by omega
    have e : cpG to of (i + 1) (upd g (to + i) (g (of + i))) = cpG to of i g := by
      funext j
      unfold cpG
      by_cases z : j = to + i
      · subst z
        have z2 : of + (to + i - to) = of + i := by omega
        rw [if_neg (by omega), if_pos (by omega), pk_us, z2]
      · by_cases z2 : to + i ≤ j ∧ j < to + 192
        · rw [if_pos (by omega), if_pos z2, pk_un (by omega)]
        · rw [if_neg (by omega), if_neg z2, pk_un z]
    rw [← e, ← ih (i + 1) f _ (by omega) (by omega)]
    simp (disch := omega) only [L_X11_copies_2, i_lel, hl, ↓reduceIte, nI_add, inb_i, ck_i, nI_clamp, nam_i, i_al, pm_r, pm_u]
