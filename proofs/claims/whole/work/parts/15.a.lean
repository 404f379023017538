/-! the relation of the two classes' stores -/
def RT (x m : St) : Prop := ∃ n, n ≤ 320 ∧ x.1 (0, 0, 0) 1 = nI n ∧ m.1 (40, 0, 0) 8 = nI n ∧ ∀ j, j < n → ∃ b, b < 256 ∧ x.1 (1, 0, 0) j &&& 255 = nI b ∧ m.1 (47, 0, 0) j = nI b
def RF (x m : St) : Prop := x.1 (0, 0, 0) 2 = m.1 (40, 0, 0) 13
def RU (x m : St) : Prop := m.1 (43, 0, 0) = x.1 (4, 0, 0) ∧ RG (x.1 (4, 0, 0))
def RS (x m : St) : Prop := ∃ n, Gd n (fx 0 x) ∧ Eqv n (fx 0 x) (m.1 (41, 0, 0))
def RI1 (i : Nat) (x m : St) : Prop := (x.1 (12, i, 0) 1 = 0 ∧ m.1 (42, 0, 0) i = 0) ∨ (x.1 (12, i, 0) 1 = 1 ∧ m.1 (42, 0, 0) i = 1 ∧ ∃ n, Gd n (fx (i + 1) x) ∧ Eqv n (fx (i + 1) x) (fun j => m.1 (41, 0, 0) (192 * (i + 1) + j)))
def RI (x m : St) : Prop := ∀ i, i < 2 → RI1 i x m
def RO (x m : St) : Prop := ∃ n, n ≤ 12 ∧ x.1 (20, 0, 0) 4 = nI n ∧ m.1 (40, 0, 0) 23 = nI n ∧ ∀ i, i < n → IV 1 60 (x.1 (21, 0, 0) i) ∧ m.1 (51, 0, 0) (4 * i) = x.1 (21, 0, 0) i ∧ IV 0 99 (x.1 (22, 0, 0) i) ∧ m.1 (51, 0, 0) (4 * i + 1) = x.1 (22, 0, 0) i ∧ (x.1 (24, 0, 0) i = 0 ∨ x.1 (24, 0, 0) i = 1) ∧ m.1 (51, 0, 0) (4 * i + 2) = x.1 (24, 0, 0) i ∧ m.1 (51, 0, 0) (4 * i + 3) = x.1 (23, 0, 0) i
def RH1 (k : Nat) (x m : St) : Prop := ∃ n, n ≤ 40 ∧ x.1 (26, k, 0) 2 = nI n ∧ m.1 (53, 0, 0) k = nI n ∧ ((x.1 (26, k, 0) 1 = -1 ∧ m.1 (52, 0, 0) k = -4) ∨ ∃ l, l < 3 ∧ x.1 (26, k, 0) 1 = nI l ∧ m.1 (52, 0, 0) k = nI l) ∧ ∀ j, j < 40 → m.1 (54, 0, 0) (40 * k + j) = x.1 (27, k, 0) j
def RH (x m : St) : Prop := ∀ k, k < 4 → RH1 k x m
def RN (x m : St) : Prop := x.1 (0, 0, 0) 11 = m.1 (40, 0, 0) 28
def Rel (x m : St) : Prop := RT x m ∧ RF x m ∧ RU x m ∧ RS x m ∧ RI x m ∧ RO x m ∧ RH x m ∧ RN x m
/-- the rows of the class that tell -/
def eX (d : Id3) : Prop := d = (0, 0, 0) ∨ d = (1, 0, 0) ∨ d = (4, 0, 0) ∨ d.1 = 12 ∨ (20 ≤ d.1 ∧ d.1 ≤ 27) ∨ ((d.1 = 7 ∨ d.1 = 8 ∨ d.1 = 10) ∧ d.2.1 ≤ 2)
/-- the slots of the model that tell -/
def eM (d : Id3) (k : Nat) : Prop := (d = (40, 0, 0) ∧ (k = 8 ∨ k = 13 ∨ k = 23 ∨ k = 28)) ∨ d = (41, 0, 0) ∨ d = (42, 0, 0) ∨ d = (43, 0, 0) ∨ d = (47, 0, 0) ∨ (51 ≤ d.1 ∧ d.1 ≤ 54)
theorem fx_cong {q : Nat} {x x' : St} (h8 : x'.1 (8, q, 0) = x.1 (8, q, 0)) (h10 : ∀ d, x'.1 (10, q, d) = x.1 (10, q, d)) (h7 : x'.1 (7, q, 0) = x.1 (7, q, 0)) : fx q x' = fx q x := by
  funext j
  unfold fx
  rw [h8, h10, h7]
theorem Rel_cong {x m x' m' : St} (hX : ∀ d, eX d → x'.1 d = x.1 d) (hM : ∀ d k, eM d k → m'.1 d k = m.1 d k) (h : Rel x m) : Rel x' m' := by
  obtain ⟨h1, h2, h3, h4, h5, h6, h7, h8⟩ := h
  have x0 := hX (0, 0, 0) (Or.inl rfl)
  have x1 := hX (1, 0, 0) (Or.inr (Or.inl rfl))
  have x4 := hX (4, 0, 0) (Or.inr (Or.inr (Or.inl rfl)))
  have x12 : ∀ i, x'.1 (12, i, 0) = x.1 (12, i, 0) := fun i => hX _ (Or.inr (Or.inr (Or.inr (Or.inl rfl))))
  have x20 : ∀ a, 20 ≤ a → a ≤ 27 → ∀ b c, x'.1 (a, b, c) = x.1 (a, b, c) := fun a ha ha2 b c => hX _ (Or.inr (Or.inr (Or.inr (Or.inr (Or.inl ⟨ha, ha2⟩)))))
  have xf : ∀ q, q ≤ 2 → fx q x' = fx q x := fun q hq => fx_cong (hX _ (Or.inr (Or.inr (Or.inr (Or.inr (Or.inr ⟨Or.inr (Or.inl rfl), hq⟩)))))) (fun d => hX _ (Or.inr (Or.inr (Or.inr (Or.inr (Or.inr ⟨Or.inr (Or.inr rfl), hq⟩)))))) (hX _ (Or.inr (Or.inr (Or.inr (Or.inr (Or.inr ⟨Or.inl rfl, hq⟩))))))
  have m8 := hM (40, 0, 0) 8 (Or.inl ⟨rfl, Or.inl rfl⟩)
  have m13 := hM (40, 0, 0) 13 (Or.inl ⟨rfl, Or.inr (Or.inl rfl)⟩)
  have m23 := hM (40, 0, 0) 23 (Or.inl ⟨rfl, Or.inr (Or.inr (Or.inl rfl))⟩)
  have m28 := hM (40, 0, 0) 28 (Or.inl ⟨rfl, Or.inr (Or.inr (Or.inr rfl))⟩)
  have m41 : m'.1 (41, 0, 0) = m.1 (41, 0, 0) := by funext k; exact hM _ k (Or.inr (Or.inl rfl))
  have m42 : m'.1 (42, 0, 0) = m.1 (42, 0, 0) := by funext k; exact hM _ k (Or.inr (Or.inr (Or.inl rfl)))
  have m43 : m'.1 (43, 0, 0) = m.1 (43, 0, 0) := by funext k; exact hM _ k (Or.inr (Or.inr (Or.inr (Or.inl rfl))))
  have m47 : m'.1 (47, 0, 0) = m.1 (47, 0, 0) := by funext k; exact hM _ k (Or.inr (Or.inr (Or.inr (Or.inr (Or.inl rfl)))))
  have m5 : ∀ a, 51 ≤ a → a ≤ 54 → m'.1 (a, 0, 0) = m.1 (a, 0, 0) := fun a h1 h2 => by funext k; exact hM _ k (Or.inr (Or.inr (Or.inr (Or.inr (Or.inr ⟨h1, h2⟩)))))
  refine ⟨?_, ?_, ?_, ?_, ?_, ?_, ?_, ?_⟩
  · unfold RT; rw [x0, x1, m8, m47]; exact h1
  · unfold RF; rw [x0, m13]; exact h2
  · unfold RU; rw [x4, m43]; exact h3
  · unfold RS; rw [xf 0 (by omega), m41]; exact h4
  · intro i hi
    unfold RI1; rw [x12, xf (i + 1) (by omega), m41, m42]; exact h5 i hi
  · unfold RO; rw [x20 20 (by omega) (by omega), x20 21 (by omega) (by omega), x20 22 (by omega) (by omega), x20 23 (by omega) (by omega), x20 24 (by omega) (by omega), m23, m5 51 (by omega) (by omega)]; exact h6
  · intro k hk
    unfold RH1; rw [x20 26 (by omega) (by omega), x20 27 (by omega) (by omega), m5 52 (by omega) (by omega), m5 53 (by omega) (by omega), m5 54 (by omega) (by omega)]; exact h7 k hk
  · unfold RN; rw [x0, m28]; exact h8
theorem fx_px {q : Nat} {x : St} {g : Nat → Int32} {j : Nat} (hj : j ≤ 176) : fx q (px q x g) j = g j := by
  unfold fx
  by_cases h1 : j < 96
  · rw [if_pos h1, px_c h1]
  · rw [if_neg h1]
    by_cases h2 : j < 168
    · rw [if_pos h2]
      have : ps q (10, q, (j - 96) % 12) ((j - 96) / 12) = some j := by
        have a1 : (j - 96) % 12 < 12 := by omega
        have a2 : (j - 96) / 12 < 6 := by omega
        have a3 : 96 + 12 * ((j - 96) / 12) + (j - 96) % 12 = j := by omega
        simp [ps, a1, a2, a3]
      rw [px_r this]
    · rw [if_neg h2]
      have : j = 168 ∨ j = 169 ∨ j = 170 ∨ j = 171 ∨ j = 172 ∨ j = 173 ∨ j = 174 ∨ j = 175 ∨ j = 176 := by omega
      rcases this with rfl | rfl | rfl | rfl | rfl | rfl | rfl | rfl | rfl
      · exact px_s4
      · exact px_s3
      · exact px_s6
      · exact px_s7
      · exact px_s8
      · exact px_s9
      · exact px_s10
      · exact px_s5
      · exact px_s2
theorem fx_pq {q q' : Nat} {x : St} {g : Nat → Int32} (h : q' ≠ q) : fx q' (px q x g) = fx q' x := fx_cong (px_q h) (fun _ => px_q h) (px_q h)
theorem rl_le {n j : Nat} (h : rl n j) : j ≤ 176 := by
  rcases h with h | h | h <;> omega
theorem Eqv_fx {n q : Nat} {x : St} {g : Nat → Int32} : Eqv n g (fx q (px q x g)) := fun j hj => fx_px (rl_le hj)
/-- the plate anew on both sides -/
theorem Rel_scene2 {x m : St} {n : Nat} {g g' : Nat → Int32} (h : Rel x m) (hG : Gd n g) (hE : Eqv n g g') (hh : ∀ j, 192 ≤ j → g' j = m.1 (41, 0, 0) j) : Rel (px 0 x g) (pm m g') := by
  obtain ⟨h1, h2, h3, h4, h5, h6, h7, h8⟩ := h
  have x0 : ∀ a b c, a ≠ 7 → a ≠ 8 → a ≠ 10 → (px 0 x g).1 (a, b, c) = x.1 (a, b, c) := fun a b c p1 p2 p3 => px_t p1 p2 p3
  have m0 : ∀ a b c, a ≠ 41 → (pm m g').1 (a, b, c) = m.1 (a, b, c) := fun a b c p => pm_t p
  refine ⟨?_, ?_, ?_, ?_, ?_, ?_, ?_, ?_⟩
  · unfold RT; rw [x0 0 _ _ (by omega) (by omega) (by omega), x0 1 _ _ (by omega) (by omega) (by omega), m0 40 _ _ (by omega), m0 47 _ _ (by omega)]; exact h1
  · unfold RF; rw [x0 0 _ _ (by omega) (by omega) (by omega), m0 40 _ _ (by omega)]; exact h2
  · unfold RU; rw [x0 4 _ _ (by omega) (by omega) (by omega), m0 43 _ _ (by omega)]; exact h3
  · refine ⟨n, Gd_eqv Eqv_fx hG, ?_⟩
    rw [pm_r]
    exact Eqv_trans (Eqv_symm Eqv_fx) hE
  · intro i hi
    unfold RI1
    rw [x0 12 _ _ (by omega) (by omega) (by omega), m0 42 _ _ (by omega), fx_pq (by omega), pm_r]
    have : (fun j => g' (192 * (i + 1) + j)) = fun j => m.1 (41, 0, 0) (192 * (i + 1) + j) := by funext j; exact hh _ (by omega)
    rw [this]
    exact h5 i hi
  · unfold RO; rw [x0 20 _ _ (by omega) (by omega) (by omega), x0 21 _ _ (by omega) (by omega) (by omega), x0 22 _ _ (by omega) (by omega) (by omega), x0 23 _ _ (by omega) (by omega) (by omega), x0 24 _ _ (by omega) (by omega) (by omega), m0 40 _ _ (by omega), m0 51 _ _ (by omega)]; exact h6
  · intro k hk
    unfold RH1; rw [x0 26 _ _ (by omega) (by omega) (by omega), x0 27 _ _ (by omega) (by omega) (by omega), m0 52 _ _ (by omega), m0 53 _ _ (by omega), m0 54 _ _ (by omega)]; exact h7 k hk
  · unfold RN; rw [x0 0 _ _ (by omega) (by omega) (by omega), m0 40 _ _ (by omega)]; exact h8
theorem Rel_scene {x m : St} {n : Nat} {g g' : Nat → Int32} (h : Rel x m) (hG : Gd n g) (hE : Eqv n g g') (hh : ∀ j, 177 ≤ j → g' j = m.1 (41, 0, 0) j) : Rel (px 0 x g) (pm m g') := Rel_scene2 h hG hE (fun j hj => hh j (by omega))
/-- a call of the class, and of the model -/
def FrX (x x' : St) : Prop := ∀ d : Id3, 40 ≤ d.1 → x'.1 d = x.1 d
def FrM (m m' : St) : Prop := ∀ d : Id3, d.1 < 40 → m'.1 d = m.1 d
def Sim {α : Type} (fX fM : St → Option (α × St)) : Prop := ∀ x m, Rel x m → ∃ r x' m', fX x = some (r, x') ∧ fM m = some (r, m') ∧ Rel x' m' ∧ FrX x x' ∧ FrM m m'
theorem FrX_px {q : Nat} {x : St} {g : Nat → Int32} : FrX x (px q x g) := by
  intro d hd
  obtain ⟨a, b, c⟩ := d
  exact px_t (by simp at hd; omega) (by simp at hd; omega) (by simp at hd; omega)
theorem FrM_pm {m : St} {g : Nat → Int32} : FrM m (pm m g) := by
  intro d hd
  obtain ⟨a, b, c⟩ := d
  exact pm_t (by simp at hd; omega)
theorem FrX_rfl {x : St} : FrX x x := fun _ _ => rfl
theorem FrM_rfl {m : St} : FrM m m := fun _ _ => rfl
theorem FrX_u {x x' : St} {a b c k : Nat} {v : Int32} (ha : a < 40) (h : FrX x x') : FrX x (uI x' (a, b, c) k v) := fun d hd => by
  rw [← h d hd]
  exact uI_ne (fun e => by rw [e] at hd; simp at hd; omega)
theorem FrM_u {x x' : St} {a b c k : Nat} {v : Int32} (ha : 40 ≤ a) (h : FrM x x') : FrM x (uI x' (a, b, c) k v) := fun d hd => by
  rw [← h d hd]
  exact uI_ne (fun e => by rw [e] at hd; simp at hd; omega)
theorem FrX_R {x x' : St} {a b c : Nat} {f : Nat → Int32} (ha : a < 40) (h : FrX x x') : FrX x (uR x' (a, b, c) f) := fun d hd => by
  rw [← h d hd]
  exact uR_ne (fun e => by rw [e] at hd; simp at hd; omega)
theorem FrM_R {x x' : St} {a b c : Nat} {f : Nat → Int32} (ha : 40 ≤ a) (h : FrM x x') : FrM x (uR x' (a, b, c) f) := fun d hd => by
  rw [← h d hd]
  exact uR_ne (fun e => by rw [e] at hd; simp at hd; omega)
theorem FrX_trans {x y z : St} (h : FrX x y) (h' : FrX y z) : FrX x z := fun d hd => (h' d hd).trans (h d hd)
theorem FrM_trans {x y z : St} (h : FrM x y) (h' : FrM y z) : FrM x z := fun d hd => (h' d hd).trans (h d hd)
theorem eX_lt {d : Id3} (h : eX d) : d.1 < 40 := by
  rcases h with h | h | h | h | h | h
  · rw [h]; decide
  · rw [h]; decide
  · rw [h]; decide
  · omega
  · omega
  · omega
theorem eM_ge {d : Id3} {k : Nat} (h : eM d k) : 40 ≤ d.1 := by
  rcases h with h | h | h | h | h | h
  · rw [h.1]; decide
  · rw [h]; decide
  · rw [h]; decide
  · rw [h]; decide
  · rw [h]; decide
  · omega
/-- one call on one store: first the class, then the model -/
theorem Sim_one {α : Type} {fX fM : St → Option (α × St)} (h : Sim fX fM) {σ : St} (hr : Rel σ σ) : ∃ r σ1 σ2, fX σ = some (r, σ1) ∧ fM σ1 = some (r, σ2) ∧ Rel σ2 σ2 := by
  obtain ⟨r0, σ1, m0, e1, _, _, hF1, _⟩ := h σ σ hr
  have hr1 : Rel σ σ1 := Rel_cong (fun d _ => rfl) (fun d k hk => by rw [hF1 d (eM_ge hk)]) hr
  obtain ⟨r, x', σ2, a1, a2, a3, a4, a5⟩ := h σ σ1 hr1
  rw [e1] at a1
  obtain ⟨rfl, rfl⟩ := Prod.mk.inj (Option.some.inj a1)
  exact ⟨r0, σ1, σ2, e1, a2, Rel_cong (fun d hd => a5 d (eX_lt hd)) (fun d k _ => rfl) a3⟩
