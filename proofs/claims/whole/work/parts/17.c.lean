/-! one drop's ticks -/
section ONE
variable {R : Nat → Int32} {g : Nat → Int32} {m x : St}
theorem act_lo {roll : Int32} {n d j : Nat} (h12 : n ≤ 12) (hd : d < 12) (hj : j < 96 ∨ j = 168 ∨ j = 169 ∨ j = 170) : actD R roll n d g j = g j := by
  have hlose : ∀ (z : Int32) (g : Nat → Int32), lose d z g j = g j := fun z g => lose_at (by omega) (by omega) (by omega) (by omega)
  have hend : ∀ (z : Int32) (g : Nat → Int32), endD d z g j = g j := fun z g => end_at (by omega) (by omega)
  have hgo : ∀ g : Nat → Int32, goOn R roll n d g j = g j := by
    intro g
    unfold goOn
    rw [nam_i]
    unfold stepG
    split
    · rw [pk_un (by omega), pk_un (by omega)]
    · split
      · rw [hend, pk_un (by omega), pk_un (by omega), pk_un (by omega), pk_un (by omega)]
      · generalize hfe : fnd (pC g (nx (g (96 + d)) (wayv R roll (g (g (96 + d)).toNatClampNeg) (g (108 + d)) (g (120 + d)) (g 175)).fst) (nI d)) n 0 = o
        cases o with
        | none =>
          unfold joinG
          simp (disch := omega) only [pk_un]
        | some e =>
          have := fnd_some hfe
          unfold joinG
          simp only []
          rw [hend, pk_un (by omega), pk_un (by omega), pk_un (by omega), pk_un (by omega), pk_un (by omega)]
  unfold actD
  split
  · exact hlose _ _
  · rw [nam_i]
    split
    · split
      · rw [hgo, hlose]
      · rw [hend, pk_un (by omega), hlose]
    · exact hlose _ _
theorem tk_u : tickG R 0 1 g = upd (if g 132 = 0 then actD R 0 1 0 g else g) 168 ((if g 132 = 0 then actD R 0 1 0 g else g) 168 + 1) := by
  unfold tickG
  rw [nam_i, tickL, tickL, Nat.add_zero]
theorem tk_lo {j : Nat} (hj : j < 96 ∨ j = 169 ∨ j = 170) : tickG R 0 1 g j = g j := by
  rw [tk_u, pk_un (by omega)]
  split
  · exact act_lo (by omega) (by omega) (by omega)
  · rfl
theorem tk_t : tickG R 0 1 g 168 = g 168 + 1 := by
  rw [tk_u, pk_us]
  split
  · rw [act_lo (by omega) (by omega) (by omega)]
  · rfl
theorem tk_at {j : Nat} (h : j ≠ 168) : tickG R 0 1 g j = if g 132 = 0 then actD R 0 1 0 g j else g j := by
  rw [tk_u, pk_un h]
  split <;> rfl
theorem tk_po : poG m (tickG R 0 1 g) = if g 132 = 0 then poG m (actD R 0 1 0 g) else poG m g := by
  unfold poG
  rw [tk_at (by omega), tk_at (by omega), tk_at (by omega), tk_at (by omega), tk_at (by omega)]
  split <;> rfl
theorem Ag_tk (h : Ag m g) : Ag m (tickG R 0 1 g) := ⟨fun c hc => by rw [tk_lo (Or.inl hc)]; exact h.1 c hc, by rw [tk_lo (by omega)]; exact h.2.1, by rw [tk_lo (by omega)]; exact h.2.2⟩
theorem act_96 (hk : dok g 0) (h0 : g 132 = 0) (hR : RG R) : actD R 0 1 0 g 96 = g 96 ∨ ∃ q, q < 96 ∧ actD R 0 1 0 g 96 = nI q ∧ (actD R 0 1 0 g 132 = 0 ∨ actD R 0 1 0 g 132 = 2) := by
  obtain ⟨c, s, w, k, a1, a2, a3, a4, a5, a6, a7, a8, a9, a10, a11⟩ := hk
  rw [Nat.add_zero] at a2 a5 a7
  have hcc : (nI c).toNatClampNeg = c := nI_clamp (by omega)
  unfold actD
  split
  · left; exact lose_at (by omega) (by omega) (by omega) (by omega)
  · rw [nam_i]
    simp only [Nat.add_zero]
    generalize hg1 : lose 0 (thn R (g 108) (g 168)) g = g1
    have k1 : g1 96 = nI c := by rw [← hg1, lose_at (by omega) (by omega) (by omega) (by omega), a2]
    have k2 : g1 c = nI k := by rw [← hg1, lose_at (by omega) (by omega) (by omega) (by omega), a8]
    have k3 : g1 120 = nI w := by rw [← hg1, lose_at (by omega) (by omega) (by omega) (by omega), a7]
    split
    · rename_i hz
      split
      · unfold goOn
        rw [nam_i, Nat.add_zero, Nat.add_zero, Nat.add_zero, k1, hcc, k2, k3]
        obtain ⟨j, hj, hje⟩ := wayv_in (R := R) (roll := 0) (s := g1 108) (sd := g1 175) a9 a6
        rw [hje]
        generalize (wayv R 0 (nI k) (g1 108) (nI w) (g1 175)).2 = sd
        unfold stepG
        rw [fnd_self]
        split
        · left; rw [pk_un (by omega), pk_un (by omega), k1, a2]
        · rename_i h5
          right
          rcases nx_in c a1 j hj with h | ⟨q, hq, h, hqc⟩
          · rw [h] at h5; exact absurd rfl h5
          · refine ⟨q, hq, ?_⟩
            rw [h]
            split
            · simp (disch := omega) only [endD, pk_un, pk_us, Nat.add_zero, or_true, true_and]
            · simp (disch := omega) only [joinG, pk_un, pk_us, Nat.add_zero, hz, true_or, true_and]
      · left
        simp (disch := omega) only [endD, pk_un, Nat.add_zero]
        rw [k1, a2]
    · left; rw [k1, a2]
/-- the drop is in a cell -/
def InC (g : Nat → Int32) : Prop := ∃ c, c < 96 ∧ g 96 = nI c
theorem InC_tk (hG : Gd 1 g) (hR : RG R) (h : InC g) : InC (tickG R 0 1 g) := by
  unfold InC
  rw [tk_at (by omega)]
  split
  · rename_i h0
    have hk := (hG.2.2.2.2.2.1 0 (by omega) h0).1
    rcases act_96 hk h0 hR with e | ⟨q, hq, e, _⟩
    · rw [e]; exact h
    · exact ⟨q, hq, e⟩
  · exact h
def tk1 (R : Nat → Int32) : Nat → (Nat → Int32) → (Nat → Int32)
  | 0, g => g
  | k + 1, g => tk1 R k (tickG R 0 1 g)
theorem tk1_gone (h : ¬ g 132 = 0) : ∀ k, poG m (tk1 R k g) = poG m g := by
  intro k
  induction k generalizing g with
  | zero => rfl
  | succ k ih =>
    rw [tk1, ih (by rw [tk_at (by omega), if_neg h]; exact h), tk_po, if_neg h]
theorem x_runL (hR : RG (x.1 (4, 0, 0))) {T : Nat} (hT : T ≤ 400) : ∀ (k t fu : Nat) (g : Nat → Int32), t + k = T → k < fu → Gd 1 g → L_X2_runOn_2 0 (nI T) fu (nI t) (px 3 x g) = some ((), px 3 x (tk1 (x.1 (4, 0, 0)) k g)) := by
  intro k
  induction k with
  | zero =>
    intro t fu g hk hf hG
    obtain ⟨f, rfl⟩ : ∃ f, fu = f + 1 := ⟨fu - 1, by omega⟩
    have z : T ≤ t := by omega
    simp (disch := omega) only [L_X2_runOn_2, i_le, z, ↓reduceIte, inb_l, ck_i, tk1]
  | succ k ih =>
    intro t fu g hk hf hG
    obtain ⟨f, rfl⟩ : ∃ f, fu = f + 1 := ⟨fu - 1, by omega⟩
    have z : ¬ T ≤ t := by omega
    rw [tk1, ← ih (t + 1) f _ (by omega) (by omega) (Gd_tick hR hG)]
    simp (disch := omega) only [L_X2_runOn_2.eq_2, i_le, z, ↓reduceIte, x_tick hR hG, bd_i, nam_i, i_al]
theorem m_aloneL (hR : RG (m.1 (43, 0, 0))) {T : Nat} {c5 : Int32} (hT : T ≤ 400) (kx : St → Option (Int32 × St)) : ∀ (k t fu : Nat) (g : Nat → Int32), t + k = T → k < fu → Gd 1 g → Ag m g → g 168 = nI t → L_X11_alone_62 (nI T) c5 fu (nI t) (poG m g) kx = kx (poG m (tk1 (m.1 (43, 0, 0)) k g)) := by
  intro k
  induction k with
  | zero =>
    intro t fu g hk hf hG hA ht
    obtain ⟨f, rfl⟩ : ∃ f, fu = f + 1 := ⟨fu - 1, by omega⟩
    have z : T ≤ t := by omega
    simp (disch := omega) only [L_X11_alone_62, i_le, z, ↓reduceIte, tk1]
  | succ k ih =>
    intro t fu g hk hf hG hA ht
    obtain ⟨f, rfl⟩ : ∃ f, fu = f + 1 := ⟨fu - 1, by omega⟩
    have z : ¬ T ≤ t := by omega
    have e18 : (poG m g).1 (40, 0, 0) 18 = g 132 := po_18
    by_cases h0 : g 132 = 0
    · have hk := (hG.2.2.2.2.2.1 0 (by omega) h0).1
      have e := tk_po (m := m) (R := m.1 (43, 0, 0)) (g := g)
      rw [if_pos h0] at e
      rw [tk1, ← ih (t + 1) f _ (by omega) (by omega) (Gd_tick hR hG) (Ag_tk hA) (by rw [tk_t, ht, i_al]), e]
      simp (disch := omega) only [L_X11_alone_62.eq_2, i_le, z, ↓reduceIte, e18, h0, m_one hR hA hk h0 ht, bd_i, nam_i, i_al]
    · rw [tk1_gone h0]
      simp (disch := omega) only [L_X11_alone_62.eq_2, i_le, z, ↓reduceIte, e18, h0]
end ONE
/-! a scene with one drop -/
def clG (g : Nat → Int32) : Nat → Int32 := upd (upd (upd (upd (upd (upd g 176 0) 168 0) 171 0) 172 0) 173 0) 174 0
def frG (c s w : Int32) (g : Nat → Int32) : Nat → Int32 := addG 0 c s w (clG g)
theorem x_clear {q : Nat} {x : St} {g : Nat → Int32} : F_X6_clearDrops q (px q x g) = some ((), px q x (clG g)) := by
  simp only [F_X6_clearDrops, nam_i, pu_s2, pu_s4, pu_s7, pu_s8, pu_s9, pu_s10]
  rfl
theorem x_add {q n : Nat} {x : St} {g : Nat → Int32} {c s w : Int32} (hn : g 176 = nI n) (e13 : n < 12) : F_X6_addDrop q c s w (px q x g) = some (nI n, px q x (addG n c s w g)) := by
  simp (disch := omega) only [F_X6_addDrop, px_s2, hn, i_ltr, e13, ↓reduceIte, inb_i, ck_i, nI_clamp, F_X0_begin, nam_i, bd_i, pu_d0, pu_d1, pu_d2, pu_d3, pu_d4, pu_d5, pu_s10, px_s10, pu_s2, pk_un, pk_us, i_al, nI_pred]
  rfl
theorem x_fresh {q : Nat} {x : St} {g : Nat → Int32} {c s w : Int32} : F_X6_addDrop q c s w (px q x (clG g)) = some (0, px q x (frG c s w g)) := x_add (n := 0) (by unfold clG; simp (disch := omega) only [pk_un, pk_us]; rfl) (by omega)
theorem fr_lo {c s w : Int32} {g : Nat → Int32} {j : Nat} (hj : j < 96 ∨ j = 169 ∨ j = 170) : frG c s w g j = g j := by
  unfold frG
  rw [add_at (by omega) (by omega) (by omega) (by omega) (by omega) (by omega) (by omega) (by omega)]
  unfold clG
  simp (disch := omega) only [pk_un]
theorem fr_d {c s w : Int32} {g : Nat → Int32} : frG c s w g 96 = c ∧ frG c s w g 108 = s ∧ frG c s w g 120 = w ∧ frG c s w g 132 = 0 ∧ frG c s w g 144 = -4 ∧ frG c s w g 168 = 0 := by
  refine ⟨?_, ?_, ?_, ?_, ?_, ?_⟩ <;> (unfold frG addG clG; simp (disch := omega) only [pk_un, pk_us, Nat.add_zero])
theorem fr_po {m : St} {c s w : Int32} {g : Nat → Int32} : poG m (frG c s w g) = po m c s w 0 (-4) := by
  have h := fr_d (c := c) (s := s) (w := w) (g := g)
  unfold poG
  rw [h.1, h.2.1, h.2.2.1, h.2.2.2.1, h.2.2.2.2.1]
/-- cells, heat, float flag as they may be -/
def Gc (g : Nat → Int32) : Prop := (∀ c, c < 96 → ∃ k, k < 8 ∧ g c = nI k) ∧ (∃ h, h < 100 ∧ g 169 = nI h) ∧ (g 170 = 0 ∨ g 170 = 1)
theorem Gd_fr {c s w k : Nat} {g : Nat → Int32} (h : Gc g) (hc : c < 96) (hs : 1 ≤ s) (hs2 : s ≤ 60) (hw : w < 4) (hk : g c = nI k) (hk8 : k < 8) (h5 : k ≠ 5) (h6 : k ≠ 6) : Gd 1 (frG (nI c) (nI s) (nI w) g) := by
  have h0 : Gd 0 (clG g) := by
    refine ⟨by omega, ?_, ?_, ?_, ?_, fun d hd => absurd hd (by omega), by unfold sm; omega⟩
    · unfold clG; simp (disch := omega) only [pk_un, pk_us]; rfl
    · intro c hc; unfold clG; simp (disch := omega) only [pk_un]; exact h.1 c hc
    · unfold clG; simp (disch := omega) only [pk_un]; exact h.2.1
    · unfold clG; simp (disch := omega) only [pk_un]; exact h.2.2
  exact Gd_add h0 (by omega) hc hs hs2 hw (by unfold clG; simp (disch := omega) only [pk_un]; exact hk) hk8 h5 h6 rfl
/-- the class's loner, begun -/
def x13 (x : St) (c s w : Int32) : St := uI (uI (uI x (13, 0, 0) 3 c) (13, 0, 0) 4 s) (13, 0, 0) 5 w
theorem KX_13 {x : St} {c s w : Int32} : KX x (x13 x c s w) := by
  have h : nX 13 0 := Or.inr (Or.inr (Or.inr (Or.inl ⟨by omega, by omega⟩)))
  exact KX_u h (KX_u h (KX_u h KX_rfl))
theorem x13_4 {x : St} {c s w : Int32} : (x13 x c s w).1 (4, 0, 0) = x.1 (4, 0, 0) := by
  unfold x13; simp (disch := omega) only [rd_t]
theorem x_begin {x : St} {c s w : Int32} (hf : fx 0 x 170 = 0 ∨ fx 0 x 170 = 1) : ∃ g0, (∀ j, j < 96 ∨ j = 169 ∨ j = 170 → g0 j = fx 0 x j) ∧ F_X2_begin 0 c s w x = some ((), px 3 (x13 x c s w) (frG c s w g0)) := by
  have c0 : (0 : Int32).toNatClampNeg = 0 := by decide
  have c96 : (96 : Int32).toNatClampNeg = 96 := by decide
  have ec : cpk (0 : Int32) (0 : Int32) (96 : Int32) 96 96 = true := by decide
  have hcells : uR x (8, 3, 0) (va_cpy (x.1 (8, 0, 0)) (x.1 (8, 3, 0)) 0 0 96) = px 3 x (fun j => if j < 96 then va_cpy (x.1 (8, 0, 0)) (x.1 (8, 3, 0)) 0 0 96 j else fx 3 x j) := by
    have := px_cells (q := 3) (x := x) (g := fx 3 x) (F := va_cpy (x.1 (8, 0, 0)) (x.1 (8, 3, 0)) 0 0 96) (fun k hk => pk_cpy_out (Or.inr (by omega)))
    rw [px_fx] at this
    exact this
  generalize hg : (fun j => if j < 96 then va_cpy (x.1 (8, 0, 0)) (x.1 (8, 3, 0)) 0 0 96 j else fx 3 x j) = g1 at hcells
  have s3 : x.1 (7, 0, 0) 3 = fx 0 x 169 := rfl
  have s6 : x.1 (7, 0, 0) 6 = fx 0 x 170 := rfl
  have e7 : ∀ g', (px 3 x g').1 (7, 0, 0) = x.1 (7, 0, 0) := fun g' => px_q (by omega)
  have hd : decide (fx 0 x 170 = 0 ∨ fx 0 x 170 = 1) = true := decide_eq_true hf
  refine ⟨upd (upd g1 169 (fx 0 x 169)) 170 (fx 0 x 170), ?_, ?_⟩
  · intro j hj
    rcases hj with h | rfl | rfl
    · rw [pk_un (by omega), pk_un (by omega), ← hg]
      show (if j < 96 then _ else _) = _
      rw [if_pos h, fx_c h, sb_cpy0 h]
    · rw [pk_un (by omega), pk_us]
    · rw [pk_us]
  · have eB : F_X6_beginAlone 3 0 c s w x = some ((), px 3 x (frG c s w (upd (upd g1 169 (fx 0 x 169)) 170 (fx 0 x 170)))) := by
      rw [F_X6_beginAlone, ec, ck_i, nam_i, c0, c96, hcells]
      simp only [nam_i, e7, s3, s6, pu_s3, hd, ck_i, pu_s6, x_clear, bd_i, x_fresh]
    rw [F_X2_begin, eB, bd_i]
    have u : ∀ x k v, ∀ g : Nat → Int32, uI (px 3 x g) (13, 0, 0) k v = px 3 (uI x (13, 0, 0) k v) g := fun x k v g => px_un (ps_t (by omega) (by omega) (by omega))
    simp only [nam_i, u]
    rfl
