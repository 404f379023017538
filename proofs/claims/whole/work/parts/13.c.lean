/-! the next cell, who is in a cell, one drop's tick: on the flat row -/
def nx (c w : Int32) : Int32 := if w = 0 then (if c / 12 ≤ 0 then -4 else c - 12) else if w = 1 then (if 11 ≤ c - c / 12 * 12 then -4 else c + 1) else if w = 2 then (if 7 ≤ c / 12 then -4 else c + 12) else if w = 3 then (if c - c / 12 * 12 ≤ 0 then -4 else c - 1) else -4
theorem x_next (c w : Int32) (σ : St) : F_X10_nextCell c w σ = some (nx c w, σ) := by
  have e : decide (¬ (12 : Int32) = 0) = true := by decide
  simp only [F_X10_nextCell, e, ck_i, nam_i, nx]
  repeat' split
  all_goals rfl
def flg (p : Bool) : Int32 := if p then 1 else 0
def nxM (c w : Int32) : Int32 :=
  if (c / 12 - flg (decide (w = 0))) + flg (decide (w = 2)) < 0 ∨ 7 < (c / 12 - flg (decide (w = 0))) + flg (decide (w = 2)) ∨ ((c - c / 12 * 12) + flg (decide (w = 1))) - flg (decide (w = 3)) < 0 ∨ 11 < ((c - c / 12 * 12) + flg (decide (w = 1))) - flg (decide (w = 3)) then -4
  else 12 * ((c / 12 - flg (decide (w = 0))) + flg (decide (w = 2))) + (((c - c / 12 * 12) + flg (decide (w = 1))) - flg (decide (w = 3)))
theorem nx_eq : ∀ c, c < 96 → ∀ w, w < 4 → nxM (nI c) (nI w) = nx (nI c) (nI w) := by decide +kernel
theorem nx_in : ∀ c, c < 96 → ∀ w, w < 4 → nx (nI c) (nI w) = -4 ∨ (∃ j, j < 96 ∧ nx (nI c) (nI w) = nI j ∧ j ≠ c) := by decide +kernel
theorem m_flagb (p : Bool) (σ : St) : F_X11_flag (flg p) σ = some (flg p, σ) := by cases p <;> rfl
theorem m_nextT (r k : Int32) (σ : St) : (bd (F_X11_in (r.toInt64) (0 : Int64) (7 : Int64) σ) fun r30 σ29 => (if r30 = 0 then some ((-4 : Int32), σ29) else bd (F_X11_in (k.toInt64) (0 : Int64) (11 : Int64) σ29) fun r33 σ32 => (if r33 = 0 then some ((-4 : Int32), σ32) else some (((12 : Int32) * r) + k, σ32)))) = some (if r < 0 ∨ 7 < r ∨ k < 0 ∨ 11 < k then -4 else 12 * r + k, σ) := by
  have e0 : (0 : Int64) = lN 0 := rfl
  have e7 : (7 : Int64) = lN 7 := rfl
  have e11 : (11 : Int64) = lN 11 := rfl
  rw [e0, e7, e11, m_inN (by decide) (by decide)]
  by_cases a1 : r < 0
  · rw [if_pos (show r < nI 0 from a1), bd_i, if_pos rfl, if_pos (Or.inl a1)]
  · rw [if_neg (show ¬ r < nI 0 from a1)]
    by_cases a2 : 7 < r
    · rw [if_pos (show nI 7 < r from a2), bd_i, if_pos rfl, if_pos (Or.inr (Or.inl a2))]
    · rw [if_neg (show ¬ nI 7 < r from a2), bd_i, if_neg (by decide), m_inN (by decide) (by decide)]
      by_cases a3 : k < 0
      · rw [if_pos (show k < nI 0 from a3), bd_i, if_pos rfl, if_pos (Or.inr (Or.inr (Or.inl a3)))]
      · rw [if_neg (show ¬ k < nI 0 from a3)]
        by_cases a4 : 11 < k
        · rw [if_pos (show nI 11 < k from a4), bd_i, if_pos rfl, if_pos (Or.inr (Or.inr (Or.inr a4)))]
        · rw [if_neg (show ¬ nI 11 < k from a4), bd_i, if_neg (by decide), if_neg (by rintro (h | h | h | h) <;> contradiction)]
theorem m_fl1 (σ : St) : F_X11_flag 1 σ = some (1, σ) := rfl
theorem m_fl0 (σ : St) : F_X11_flag 0 σ = some (0, σ) := rfl
theorem ft10 : ((1 : Int32) = 0) = False := eq_false (by decide)
theorem ft01 : ((0 : Int32) = 1) = False := eq_false (by decide)
theorem m_next (c w : Int32) (σ : St) : F_X11_nextTo c w σ = some (nxM c w, σ) := by
  have e : decide (¬ (12 : Int32) = 0) = true := by decide
  by_cases h0 : w = 0
  · subst h0
    exact m_nextT _ _ σ
  · by_cases h1 : w = 1
    · subst h1
      exact m_nextT _ _ σ
    · by_cases h2 : w = 2
      · subst h2
        exact m_nextT _ _ σ
      · by_cases h3 : w = 3
        · subst h3
          exact m_nextT _ _ σ
        · simp only [F_X11_nextTo, e, ck_i, nam_i, bd_i, m_fl0, h0, h1, h2, h3, ↓reduceIte, nxM, decide_false, flg, Bool.false_eq_true]
          exact m_nextT _ _ σ
/-- the first place from i on, k places, where P holds -/
def fnd (P : Nat → Bool) : Nat → Nat → Option Nat
  | 0, _ => none
  | k + 1, i => if P i then some i else fnd P k (i + 1)
def ans (o : Option Nat) : Int32 := match o with
  | none => -4
  | some e => nI e
theorem fnd_some {P : Nat → Bool} : ∀ {k i e : Nat}, fnd P k i = some e → i ≤ e ∧ e < i + k ∧ P e = true
  | 0, i, e, h => by cases h
  | k + 1, i, e, h => by
    rw [fnd] at h
    split at h
    · rename_i hp
      cases h
      exact ⟨Nat.le_refl _, by omega, hp⟩
    · have := fnd_some h
      exact ⟨by omega, by omega, this.2.2⟩
theorem fnd_none {P : Nat → Bool} : ∀ {k i : Nat}, fnd P k i = none → ∀ j, i ≤ j → j < i + k → P j = false
  | 0, i, h, j, h1, h2 => by omega
  | k + 1, i, h, j, h1, h2 => by
    rw [fnd] at h
    split at h
    · cases h
    · rename_i hp
      rcases Nat.eq_or_lt_of_le h1 with q | q
      · subst q
        exact Bool.eq_false_iff.mpr hp
      · exact fnd_none h j q (by omega)
theorem fnd_cong {P Q : Nat → Bool} : ∀ {k i : Nat}, (∀ j, i ≤ j → j < i + k → P j = Q j) → fnd P k i = fnd Q k i
  | 0, _, _ => rfl
  | k + 1, i, h => by
    rw [fnd, fnd, h i (Nat.le_refl _) (by omega), fnd_cong (fun j h1 h2 => h j (by omega) (by omega))]
theorem fnd_no {P : Nat → Bool} : ∀ {k i : Nat}, (∀ j, i ≤ j → j < i + k → P j = false) → fnd P k i = none
  | 0, _, _ => rfl
  | k + 1, i, h => by
    rw [fnd, h i (Nat.le_refl _) (by omega), if_neg (by decide), fnd_no (fun j h1 h2 => h j (by omega) (by omega))]
def pC (g : Nat → Int32) (c nt : Int32) (i : Nat) : Bool := !decide (nI i = nt) && (decide (g (132 + i) = 0) && decide (g (96 + i) = c))
theorem m_there {m : St} {g : Nat → Int32} {d : Nat} (hd : d < 12) : F_X11_isThere (nI d) (pm m g) = some (flg (decide (g (132 + d) = 0)), pm m g) := by
  by_cases h : g (132 + d) = 0 <;> simp (disch := omega) only [F_X11_isThere, i_la, inb_i, ck_i, nI_clamp, pm_r, h, ↓reduceIte, decide_true, decide_false, flg] <;> rfl
theorem m_inL0 {m : St} {g : Nat → Int32} {c nt : Int32} {n : Nat} (hn : g 176 = nI n) (h12 : n ≤ 12) : ∀ (k i fu : Nat), i + k = n → k < fu → L_X11_inCell_2 c nt fu (nI i) (pm m g) = some (ans (fnd (pC g c nt) k i), pm m g) := by
  intro k
  induction k with
  | zero =>
    intro i fu hi hf
    obtain ⟨f, rfl⟩ : ∃ f, fu = f + 1 := ⟨fu - 1, by omega⟩
    have : n = i := by omega
    subst this
    simp (disch := omega) only [L_X11_inCell_2, inb_l, ck_i, pm_r, hn, i_le, Nat.le_refl, ↓reduceIte, fnd, ans]
  | succ k ih =>
    intro i fu hi hf
    obtain ⟨f, rfl⟩ : ∃ f, fu = f + 1 := ⟨fu - 1, by omega⟩
    have h1 : ¬ n ≤ i := by omega
    have ih' := ih (i + 1) f (by omega) (by omega)
    by_cases h2 : nI i = nt
    · subst h2
      have e : pC g c (nI i) i = false := by simp only [pC, decide_true, Bool.not_true, Bool.false_and]
      simp (disch := omega) only [L_X11_inCell_2, inb_l, ck_i, pm_r, hn, i_le, h1, ↓reduceIte, fnd, e, nam_i, i_al, ih', Bool.false_eq_true]
    · by_cases h3 : g (132 + i) = 0
      · by_cases h4 : g (96 + i) = c
        · have e : pC g c nt i = true := by simp only [pC, h2, h3, h4, decide_true, decide_false, Bool.not_false, Bool.and_self]
          simp (disch := omega) only [L_X11_inCell_2, inb_l, inb_i, i_la, nI_clamp, ck_i, pm_r, hn, i_le, h1, ↓reduceIte, fnd, e, h2, h3, h4, nam_i, bd_i, m_there, decide_true, flg, ans]
          rfl
        · have e : pC g c nt i = false := by simp only [pC, h2, h3, h4, decide_true, decide_false, Bool.not_false, Bool.and_false]
          simp (disch := omega) only [L_X11_inCell_2, inb_l, inb_i, i_la, nI_clamp, ck_i, pm_r, hn, i_le, h1, ↓reduceIte, fnd, e, h2, h3, h4, nam_i, bd_i, m_there, decide_true, flg, i_al, ft10, ih', Bool.false_eq_true]
      · have e : pC g c nt i = false := by simp only [pC, h2, h3, decide_false, Bool.not_false, Bool.false_and, Bool.and_false]
        simp (disch := omega) only [L_X11_inCell_2, inb_l, inb_i, i_la, nI_clamp, ck_i, pm_r, hn, i_le, h1, ↓reduceIte, fnd, e, h2, h3, nam_i, bd_i, m_there, decide_false, flg, i_al, Bool.false_eq_true, ih']
theorem m_inC {m : St} {g : Nat → Int32} {c nt : Int32} {n : Nat} (hn : g 176 = nI n) (h12 : n ≤ 12) : F_X11_inCell c nt (pm m g) = some (ans (fnd (pC g c nt) n 0), pm m g) := m_inL0 hn h12 n 0 FU (by omega) (by unfold FU; omega)
theorem x_inL0 {q : Nat} {x : St} {g : Nat → Int32} {c : Int32} {n : Nat} (hn : g 176 = nI n) (h12 : n ≤ 12) : ∀ (k i fu : Nat), i + k = n → k < fu → L_X6_dropAt_2 q c fu (nI i) (px q x g) = some (ans (fnd (pC g c (-4)) k i), px q x g) := by
  intro k
  induction k with
  | zero =>
    intro i fu hi hf
    obtain ⟨f, rfl⟩ : ∃ f, fu = f + 1 := ⟨fu - 1, by omega⟩
    have : n = i := by omega
    subst this
    simp (disch := omega) only [L_X6_dropAt_2, px_s2, hn, i_le, Nat.le_refl, ↓reduceIte, fnd, ans]
  | succ k ih =>
    intro i fu hi hf
    obtain ⟨f, rfl⟩ : ∃ f, fu = f + 1 := ⟨fu - 1, by omega⟩
    have h1 : ¬ n ≤ i := by omega
    have h2 : ¬ nI i = -4 := by rw [i_nm4 (by omega)]; exact not_false
    have ih' := ih (i + 1) f (by omega) (by omega)
    by_cases h3 : g (132 + i) = 0
    · by_cases h4 : g (96 + i) = c
      · have e : pC g c (-4) i = true := by simp only [pC, h2, h3, h4, decide_true, decide_false, Bool.not_false, Bool.and_self]
        simp (disch := omega) only [L_X6_dropAt_2, inb_i, nI_clamp, ck_i, px_s2, px_d3, px_d0, hn, i_le, h1, ↓reduceIte, fnd, e, h3, h4, ans]
      · have e : pC g c (-4) i = false := by simp only [pC, h2, h3, h4, decide_true, decide_false, Bool.not_false, Bool.and_false]
        simp (disch := omega) only [L_X6_dropAt_2, inb_i, nI_clamp, ck_i, px_s2, px_d3, px_d0, hn, i_le, h1, ↓reduceIte, fnd, e, h3, h4, nam_i, i_al]
        rw [ih', if_neg (by decide)]
    · have e : pC g c (-4) i = false := by simp only [pC, h2, h3, decide_false, Bool.not_false, Bool.false_and, Bool.and_false]
      simp (disch := omega) only [L_X6_dropAt_2, inb_i, nI_clamp, ck_i, px_s2, px_d3, px_d0, hn, i_le, h1, ↓reduceIte, fnd, e, h3, nam_i, i_al]
      rw [ih', if_neg (by decide)]
theorem x_inC {q : Nat} {x : St} {g : Nat → Int32} {c : Int32} {n : Nat} (hn : g 176 = nI n) (h12 : n ≤ 12) : F_X6_dropAt q c (px q x g) = some (ans (fnd (pC g c (-4)) n 0), px q x g) := x_inL0 hn h12 n 0 FU (by omega) (by unfold FU; omega)
