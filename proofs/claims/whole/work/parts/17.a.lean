/-! one drop by itself -/
def KX (x x' : St) : Prop := ∀ d : Id3, (eX d ∨ 40 ≤ d.1) → x'.1 d = x.1 d
def KM (m m' : St) : Prop := ∀ (d : Id3) (k : Nat), (eM d k ∨ d.1 < 40) → m'.1 d k = m.1 d k
theorem KX_rfl {x : St} : KX x x := fun _ _ => rfl
theorem KM_rfl {x : St} : KM x x := fun _ _ _ => rfl
theorem KX_trans {x y z : St} (h : KX x y) (h' : KX y z) : KX x z := fun d hd => (h' d hd).trans (h d hd)
theorem KM_trans {x y z : St} (h : KM x y) (h' : KM y z) : KM x z := fun d k hd => (h' d k hd).trans (h d k hd)
theorem Sim_scr {α : Type} {fX fM : St → Option (α × St)} {x m x' m' : St} {r : α} (h : Rel x m) (e1 : fX x = some (r, x')) (e2 : fM m = some (r, m')) (k1 : KX x x') (k2 : KM m m') : ∃ r x' m', fX x = some (r, x') ∧ fM m = some (r, m') ∧ Rel x' m' ∧ FrX x x' ∧ FrM m m' :=
  ⟨r, x', m', e1, e2, Rel_cong (fun d hd => k1 d (Or.inl hd)) (fun d k hd => k2 d k (Or.inl hd)) h, fun d hd => k1 d (Or.inr hd), fun d hd => by funext k; exact k2 d k (Or.inr hd)⟩
/-- a row of the class that does not tell -/
def nX (a b : Nat) : Prop := (2 ≤ a ∧ a ≤ 3) ∨ (a = 4 ∧ b = 1) ∨ (5 ≤ a ∧ a ≤ 6) ∨ (13 ≤ a ∧ a ≤ 19) ∨ ((a = 7 ∨ a = 8 ∨ a = 10) ∧ 3 ≤ b)
theorem nX_ne {a b c : Nat} (h : nX a b) {d : Id3} (hd : eX d ∨ 40 ≤ d.1) : d ≠ (a, b, c) := by
  rintro rfl
  rcases hd with hd | hd
  · rcases hd with e | e | e | e | e | e
    · have := Prod.mk.inj e; have h1 := this.1; have h2 := Prod.mk.inj this.2; rcases h with h | h | h | h | h <;> omega
    · have := Prod.mk.inj e; have h1 := this.1; have h2 := Prod.mk.inj this.2; rcases h with h | h | h | h | h <;> omega
    · have := Prod.mk.inj e; have h1 := this.1; have h2 := Prod.mk.inj this.2; rcases h with h | h | h | h | h <;> omega
    · have e' : a = 12 := e; rcases h with h | h | h | h | h <;> omega
    · have e' : 20 ≤ a ∧ a ≤ 27 := e; rcases h with h | h | h | h | h <;> omega
    · have e' : (a = 7 ∨ a = 8 ∨ a = 10) ∧ b ≤ 2 := e; rcases h with h | h | h | h | h <;> omega
  · have e' : 40 ≤ a := hd; rcases h with h | h | h | h | h <;> omega
theorem KX_R {x x' : St} {a b c : Nat} {f : Nat → Int32} (ha : nX a b) (h : KX x x') : KX x (uR x' (a, b, c) f) := fun d hd => by
  rw [← h d hd]
  exact uR_ne (nX_ne ha hd)
theorem KX_u {x x' : St} {a b c k : Nat} {v : Int32} (ha : nX a b) (h : KX x x') : KX x (uI x' (a, b, c) k v) := by
  rw [uI_R]; exact KX_R ha h
theorem KX_px {q : Nat} {x x' : St} {g : Nat → Int32} (hq : 3 ≤ q) (h : KX x x') : KX x (px q x' g) := fun d hd => by
  rw [← h d hd]
  obtain ⟨a, b, c⟩ := d
  by_cases hb : b = q
  · subst hb
    by_cases h7 : a = 7 ∨ a = 8 ∨ a = 10
    · exact absurd rfl (nX_ne (c := c) (Or.inr (Or.inr (Or.inr (Or.inr ⟨h7, hq⟩)))) hd)
    · exact px_t (by omega) (by omega) (by omega)
  · exact px_q hb
theorem KM_R {x x' : St} {a b c : Nat} {f : Nat → Int32} (ha : (44 ≤ a ∧ a ≤ 46) ∨ (48 ≤ a ∧ a ≤ 50)) (h : KM x x') : KM x (uR x' (a, b, c) f) := fun d k hd => by
  rw [← h d k hd]
  rw [uR_ne]
  rintro rfl
  rcases hd with hd | hd
  · rcases hd with e | e | e | e | e | e
    · have := (Prod.mk.inj e.1).1; omega
    · have := (Prod.mk.inj e).1; omega
    · have := (Prod.mk.inj e).1; omega
    · have := (Prod.mk.inj e).1; omega
    · have := (Prod.mk.inj e).1; omega
    · have e' : 51 ≤ a ∧ a ≤ 54 := e; omega
  · have e' : a < 40 := hd; omega
theorem KM_u {x x' : St} {a b c k : Nat} {v : Int32} (ha : (44 ≤ a ∧ a ≤ 46) ∨ (48 ≤ a ∧ a ≤ 50)) (h : KM x x') : KM x (uI x' (a, b, c) k v) := by
  rw [uI_R]; exact KM_R ha h
theorem KM_40 {x x' : St} {k : Nat} {v : Int32} (h8 : k ≠ 8) (h13 : k ≠ 13) (h23 : k ≠ 23) (h28 : k ≠ 28) (h : KM x x') : KM x (uI x' (40, 0, 0) k v) := fun d j hd => by
  rw [← h d j hd]
  by_cases e : d = (40, 0, 0)
  · subst e
    rw [rd_e, pk_un]
    rintro rfl
    rcases hd with hd | hd
    · rcases hd with e | e | e | e | e | e
      · omega
      · have := (Prod.mk.inj e).1; omega
      · have := (Prod.mk.inj e).1; omega
      · have := (Prod.mk.inj e).1; omega
      · have := (Prod.mk.inj e).1; omega
      · have e' : 51 ≤ 40 ∧ 40 ≤ 54 := e; omega
    · have e' : 40 < 40 := hd; omega
  · rw [uI_ne e]
/-- the model's one drop: cell, size, way, how it ended, when -/
def po (m : St) (c s w e t : Int32) : St := uI (uI (uI (uI (uI m (40, 0, 0) 15 c) (40, 0, 0) 16 s) (40, 0, 0) 17 w) (40, 0, 0) 18 e) (40, 0, 0) 19 t
section PO
variable {m : St} {c s w e t v : Int32}
theorem uI_sw {d : Id3} {k j : Nat} {a b : Int32} (h : k ≠ j) : uI (uI m d k a) d j b = uI (uI m d j b) d k a := by
  rw [uI_R, uI_R, uI_R, uI_R, uR_R, uR_R, uR_self, uR_self]
  congr 1
  funext i
  by_cases h1 : i = j
  · subst h1; rw [pk_us, pk_un (Ne.symm h), pk_us]
  · rw [pk_un h1]
    by_cases h2 : i = k
    · subst h2; rw [pk_us, pk_us]
    · rw [pk_un h2, pk_un h2, pk_un h1]
theorem po_15 : (po m c s w e t).1 (40, 0, 0) 15 = c := by unfold po; simp (disch := omega) only [rd_e, pk_un, pk_us]
theorem po_16 : (po m c s w e t).1 (40, 0, 0) 16 = s := by unfold po; simp (disch := omega) only [rd_e, pk_un, pk_us]
theorem po_17 : (po m c s w e t).1 (40, 0, 0) 17 = w := by unfold po; simp (disch := omega) only [rd_e, pk_un, pk_us]
theorem po_18 : (po m c s w e t).1 (40, 0, 0) 18 = e := by unfold po; simp (disch := omega) only [rd_e, pk_un, pk_us]
theorem po_19 : (po m c s w e t).1 (40, 0, 0) 19 = t := by unfold po; simp (disch := omega) only [rd_e, pk_un, pk_us]
theorem po_t {a b d : Nat} (h : a ≠ 40) : (po m c s w e t).1 (a, b, d) = m.1 (a, b, d) := by unfold po; simp (disch := omega) only [rd_t]
theorem pq_19 : uI (po m c s w e t) (40, 0, 0) 19 v = po m c s w e v := by unfold po; rw [uI_uI]
theorem pq_18 : uI (po m c s w e t) (40, 0, 0) 18 v = po m c s w v t := by unfold po; rw [uI_sw (k := 19) (j := 18) (by omega), uI_uI]
theorem pq_17 : uI (po m c s w e t) (40, 0, 0) 17 v = po m c s v e t := by unfold po; rw [uI_sw (k := 19) (j := 17) (by omega), uI_sw (k := 18) (j := 17) (by omega), uI_uI]
theorem pq_16 : uI (po m c s w e t) (40, 0, 0) 16 v = po m c v w e t := by unfold po; rw [uI_sw (k := 19) (j := 16) (by omega), uI_sw (k := 18) (j := 16) (by omega), uI_sw (k := 17) (j := 16) (by omega), uI_uI]
theorem pq_15 : uI (po m c s w e t) (40, 0, 0) 15 v = po m v s w e t := by unfold po; rw [uI_sw (k := 19) (j := 15) (by omega), uI_sw (k := 18) (j := 15) (by omega), uI_sw (k := 17) (j := 15) (by omega), uI_sw (k := 16) (j := 15) (by omega), uI_uI]
theorem uI_sd {d d' : Id3} {k j : Nat} {a b : Int32} (h : d ≠ d') : uI (uI m d k a) d' j b = uI (uI m d' j b) d k a := by
  refine Prod.ext ?_ rfl
  funext i l
  simp only [uI]
  by_cases h1 : i = d
  · subst h1
    simp [h]
  · simp [h1]
theorem pq_o {a b d k : Nat} (h : a ≠ 40) : uI (po m c s w e t) (a, b, d) k v = po (uI m (a, b, d) k v) c s w e t := by
  have hn : ((40, 0, 0) : Id3) ≠ (a, b, d) := fun q => h (Prod.mk.inj q).1.symm
  unfold po
  rw [uI_sd hn, uI_sd hn, uI_sd hn, uI_sd hn, uI_sd hn]
theorem po_po {c' s' w' e' t' : Int32} : po (po m c s w e t) c' s' w' e' t' = po m c' s' w' e' t' := by
  conv => lhs; unfold po
  rw [show uI (uI (uI (uI (uI m (40, 0, 0) 15 c) (40, 0, 0) 16 s) (40, 0, 0) 17 w) (40, 0, 0) 18 e) (40, 0, 0) 19 t = po m c s w e t from rfl, pq_15, pq_16, pq_17, pq_18, pq_19]
theorem KM_po {m' : St} (h : KM m' m) : KM m' (po m c s w e t) := by
  unfold po
  exact KM_40 (by omega) (by omega) (by omega) (by omega) (KM_40 (by omega) (by omega) (by omega) (by omega) (KM_40 (by omega) (by omega) (by omega) (by omega) (KM_40 (by omega) (by omega) (by omega) (by omega) (KM_40 (by omega) (by omega) (by omega) (by omega) h))))
theorem m_sets : F_X11_sets c s w m = some ((), po m c s w 0 (-4)) := by
  simp only [F_X11_sets, nam_i, po]
theorem m_oneEnds {a b : Int32} : F_X11_oneEnds a b (po m c s w e t) = some ((), po m c s w a b) := by
  simp only [F_X11_oneEnds, nam_i, pq_18, pq_19]
end PO
def poG (m : St) (g : Nat → Int32) : St := po m (g 96) (g 108) (g 120) (g 132) (g 144)
