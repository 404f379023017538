/-! ticks: the loops of both classes over the flat row -/
def RG (R : Nat → Int32) : Prop := IV 1 99 (R 0) ∧ IV 0 99 (R 1) ∧ (∃ a b, 1 ≤ a ∧ a ≤ b ∧ b ≤ 60 ∧ R 2 = nI a ∧ R 3 = nI b) ∧ IV 0 9 (R 4) ∧ IV 1 99 (R 5) ∧ IV 1 50 (R 6) ∧ IV 1 9 (R 7) ∧ IV 0 60 (R 8)
theorem lessI_n {a b : Nat} (ha : a < 2 ^ 31) (hb : b < 2 ^ 31) : lessI (nI a) (nI b) = nI (if b ≤ a then b else a) := by
  unfold lessI
  by_cases h : b ≤ a
  · rw [if_pos (by rw [i_le hb ha]; exact h), if_pos h]
  · rw [if_neg (by rw [i_le hb ha]; exact h), if_neg h]
theorem hss_n {R : Nat → Int32} {s h j : Nat} (hs : s < 2 ^ 31) (hh : h < 2 ^ 30) (h6 : R 6 = nI j) (hj : 0 < j) (hj2 : j < 2 ^ 31) : ∃ z, z ≤ s ∧ hss R (nI s) (nI h) = nI z ∧ (0 < s → 0 < z) := by
  unfold hss
  have hle : h / j ≤ h := Nat.div_le_self h j
  have e : (1 : Int32) + nI h / nI j = nI (1 + h / j) := by rw [pk_div (by omega) hj hj2, i_la]
  rw [h6, e]
  generalize h / j = z at hle
  rw [lessI_n hs (by omega)]
  refine ⟨_, ?_, rfl, ?_⟩
  · split <;> omega
  · split <;> omega
theorem thn_n {R : Nat → Int32} {s : Nat} {t : Int32} (hs : s < 2 ^ 31) : ∃ z, z ≤ s ∧ thn R (nI s) t = nI z := by
  unfold thn
  split
  · split
    · refine ⟨_, ?_, lessI_n (b := 1) hs (by omega)⟩
      split <;> omega
    · refine ⟨_, ?_, lessI_n (b := 2) hs (by omega)⟩
      split <;> omega
  · exact ⟨0, by omega, rfl⟩
section ACT
variable {R : Nat → Int32} {roll : Int32} {n d : Nat} {g g' : Nat → Int32}
theorem act_hi (h12 : n ≤ 12) (hd : d < 12) {j : Nat} (hj : 177 ≤ j) : actD R roll n d g j = g j := by
  have hlose : ∀ (z : Int32) (g : Nat → Int32), lose d z g j = g j := fun z g => lose_at (by omega) (by omega) (by omega) (by omega)
  have hend : ∀ (z : Int32) (g : Nat → Int32), endD d z g j = g j := fun z g => end_at (by omega) (by omega)
  have hgo : ∀ g : Nat → Int32, goOn R roll n d g j = g j := by
    intro g
    unfold goOn
    rw [nam_i]
    unfold stepG
    split
    · rw [pk_un (by omega), pk_un (by omega)]
    · split
      · rw [hend, pk_un (by omega), pk_un (by omega), pk_un (by omega), pk_un (by omega)]
      · generalize hfe : fnd (pC g (nx (g (96 + d)) (wayv R roll (g (g (96 + d)).toNatClampNeg) (g (108 + d)) (g (120 + d)) (g 175)).fst) (nI d)) n 0 = o
        cases o with
        | none =>
          unfold joinG
          simp (disch := omega) only [pk_un]
        | some e =>
          have := fnd_some hfe
          unfold joinG
          simp only []
          rw [hend, pk_un (by omega), pk_un (by omega), pk_un (by omega), pk_un (by omega), pk_un (by omega)]
  unfold actD
  split
  · exact hlose _ _
  · rw [nam_i]
    split
    · split
      · rw [hgo, hlose]
      · rw [hend, pk_un (by omega), hlose]
    · exact hlose _ _
theorem Gd_act (hG : Gd n g) (hR : RG R) (hd : d < n) (h0 : g (132 + d) = 0) : Gd n (actD R roll n d g) := by
  have h12 := hG.1
  obtain ⟨hok, hl⟩ := hG.2.2.2.2.2.1 d hd h0
  obtain ⟨c, s, w, k, a1, a2, a3, a4, a5, a6, a7, a8, a9, a10, a11⟩ := hok
  obtain ⟨h, hh, hhe⟩ := hG.2.2.2.1
  obtain ⟨j6, b1, b2, b3⟩ := hR.2.2.2.2.2.1
  unfold actD
  split
  · obtain ⟨z, hz, hze, _⟩ := hss_n (R := R) (h := h) a4 (by omega) b3 (by omega) (by omega)
    rw [a5, hhe, hze]
    exact Gd_lose hG hd h0 a5 a4 hz
  · rw [nam_i]
    obtain ⟨z, hz, hze⟩ := thn_n (R := R) (t := g 168) a4
    rw [a5, hze]
    have hG1 := Gd_lose hG hd h0 a5 a4 hz
    split
    · rename_i h1
      split
      · exact Gd_goOn hG1 hd h1
      · exact (Gd_end hG1 hd (by decide) (fun c hc => by rw [pk_un (by omega)]) (by rw [pk_un (by omega)]) (by rw [pk_un (by omega)]) (by rw [pk_un (by omega)]) (fun e he hne => ⟨by rw [pk_un (by omega)], by rw [pk_un (by omega)], by rw [pk_un (by omega)], by rw [pk_un (by omega)]⟩)).1
    · exact hG1
theorem Eqv_act (hE : Eqv n g g') (hG : Gd n g) (hd : d < n) (h0 : g (132 + d) = 0) : Eqv n (actD R roll n d g) (actD R roll n d g') := by
  have h12 := hG.1
  obtain ⟨hok, hl⟩ := hG.2.2.2.2.2.1 d hd h0
  obtain ⟨c, s, w, k, a1, a2, a3, a4, a5, a6, a7, a8, a9, a10, a11⟩ := hok
  have hcc : (nI c).toNatClampNeg = c := nI_clamp (by omega)
  unfold actD
  rw [hE.at hd h12, hE.big hd h12, hE.s (j := 170) (by omega) (by omega), hE.s (j := 169) (by omega) (by omega), hE.s (j := 168) (by omega) (by omega), a2, hcc, hE.c a1]
  split
  · exact Eqv_lose hE hd h12
  · rw [nam_i, nam_i]
    obtain ⟨z, hz, hze⟩ := thn_n (R := R) (t := g 168) a4
    rw [a5, hze]
    have hG1 := Gd_lose hG hd h0 a5 a4 hz
    have hE1 : Eqv n (lose d (nI z) g) (lose d (nI z) g') := Eqv_lose hE hd h12
    rw [hE1.gone hd h12, hE1.big hd h12, hE1.s (j := 173) (by omega) (by omega)]
    split
    · rename_i h1
      split
      · exact Eqv_goOn hE1 hd h12 (hG1.2.2.2.2.2.1 d hd h1).1
      · exact Eqv_end (Eqv_upd hE1 rfl)
    · exact hE1
end ACT
def tickL (R : Nat → Int32) (roll : Int32) (n : Nat) : Nat → Nat → (Nat → Int32) → (Nat → Int32)
  | 0, _, g => g
  | k + 1, i, g => tickL R roll n k (i + 1) (if g (132 + i) = 0 then actD R roll n i g else g)
theorem Gd_if {R : Nat → Int32} {roll : Int32} {n i : Nat} {g : Nat → Int32} (hG : Gd n g) (hR : RG R) (hi : i < n) : Gd n (if g (132 + i) = 0 then actD R roll n i g else g) := by
  split
  · rename_i h
    exact Gd_act hG hR hi h
  · exact hG
theorem Gd_tickL {R : Nat → Int32} {roll : Int32} {n : Nat} (hR : RG R) : ∀ (k i : Nat) (g : Nat → Int32), i + k = n → Gd n g → Gd n (tickL R roll n k i g)
  | 0, _, _, _, h => h
  | k + 1, i, g, hi, h => Gd_tickL hR k (i + 1) _ (by omega) (Gd_if h hR (by omega))
theorem Eqv_tickL {R : Nat → Int32} {roll : Int32} {n : Nat} (hR : RG R) : ∀ (k i : Nat) (g g' : Nat → Int32), i + k = n → Gd n g → Eqv n g g' → Eqv n (tickL R roll n k i g) (tickL R roll n k i g')
  | 0, _, _, _, _, _, h => h
  | k + 1, i, g, g', hi, hG, h => by
    refine Eqv_tickL hR k (i + 1) _ _ (by omega) (Gd_if hG hR (by omega)) ?_
    rw [h.gone (d := i) (by omega) hG.1]
    split
    · rename_i h0
      exact Eqv_act h hG (by omega) h0
    · exact h
theorem tickL_hi {R : Nat → Int32} {roll : Int32} {n : Nat} (h12 : n ≤ 12) {j : Nat} (hj : 177 ≤ j) : ∀ (k i : Nat) (g : Nat → Int32), i + k = n → tickL R roll n k i g j = g j
  | 0, _, _, _ => rfl
  | k + 1, i, g, hi => by
    rw [tickL, tickL_hi h12 hj k (i + 1) _ (by omega)]
    split
    · exact act_hi h12 (by omega) hj
    · rfl
theorem m_tickL {m : St} {n : Nat} (hR : RG (m.1 (43, 0, 0))) (c1 c2 : Int32) (kx : St → Option (Int32 × St)) : ∀ (k i fu : Nat) (g : Nat → Int32), i + k = n → k < fu → Gd n g → L_X11_go_23 c1 c2 fu (nI i) (pm m g) kx = kx (pm m (tickL (m.1 (43, 0, 0)) (m.1 (43, 0, 0) 8) n k i g)) := by
  intro k
  induction k with
  | zero =>
    intro i fu g hi hf hG
    obtain ⟨f, rfl⟩ : ∃ f, fu = f + 1 := ⟨fu - 1, by omega⟩
    have h12 := hG.1
    have hn := hG.2.1
    have : n = i := by omega
    subst this
    simp (disch := omega) only [L_X11_go_23, inb_l, ck_i, pm_r, hn, i_le, Nat.le_refl, ↓reduceIte, tickL]
  | succ k ih =>
    intro i fu g hi hf hG
    obtain ⟨f, rfl⟩ : ∃ f, fu = f + 1 := ⟨fu - 1, by omega⟩
    have h12 := hG.1
    have hn := hG.2.1
    have h1 : ¬ n ≤ i := by omega
    have ih' := ih (i + 1) f (if g (132 + i) = 0 then actD (m.1 (43, 0, 0)) (m.1 (43, 0, 0) 8) n i g else g) (by omega) (by omega) (Gd_if hG hR (by omega))
    rw [tickL, ← ih']
    by_cases h0 : g (132 + i) = 0
    · obtain ⟨⟨c, s, w, k', a1, a2, a3, a4, a5, a6, a7, a8, a9, a10, a11⟩, hl⟩ := hG.2.2.2.2.2.1 i (by omega) h0
      obtain ⟨j6, b1, b2, b3⟩ := hR.2.2.2.2.2.1
      obtain ⟨j7, c1', c2', c3'⟩ := hR.2.2.2.2.2.2.1
      have ha := m_acts (m := m) hn h12 (by omega) a1 a2 a9 a8 a6 a7 (by rw [b3]; exact nI_ne0 (by omega) (by omega)) (by rw [c3']; exact nI_ne0 (by omega) (by omega))
      simp (disch := omega) only [L_X11_go_23, inb_l, ck_i, pm_r, hn, i_le, h1, ↓reduceIte, m_there, h0, decide_true, flg, bd_i, nam_i, ft10, ha, i_al]
    · simp (disch := omega) only [L_X11_go_23, inb_l, ck_i, pm_r, hn, i_le, h1, ↓reduceIte, m_there, h0, decide_false, flg, bd_i, nam_i, Bool.false_eq_true, i_al]
theorem x_tickL {q r : Nat} {x : St} {n : Nat} {roll : Int32} (hR : RG (x.1 (4, r, 0))) (kx : St → Option (Unit × St)) : ∀ (k i fu : Nat) (g : Nat → Int32), i + k = n → k < fu → Gd n g → L_X6_passTick_2 q r roll fu (nI i) (px q x g) kx = kx (px q x (tickL (x.1 (4, r, 0)) roll n k i g)) := by
  intro k
  induction k with
  | zero =>
    intro i fu g hi hf hG
    obtain ⟨f, rfl⟩ : ∃ f, fu = f + 1 := ⟨fu - 1, by omega⟩
    have h12 := hG.1
    have hn := hG.2.1
    have : n = i := by omega
    subst this
    simp (disch := omega) only [L_X6_passTick_2, px_s2, hn, i_le, Nat.le_refl, ↓reduceIte, tickL]
  | succ k ih =>
    intro i fu g hi hf hG
    obtain ⟨f, rfl⟩ : ∃ f, fu = f + 1 := ⟨fu - 1, by omega⟩
    have h12 := hG.1
    have hn := hG.2.1
    have h1 : ¬ n ≤ i := by omega
    have ih' := ih (i + 1) f (if g (132 + i) = 0 then actD (x.1 (4, r, 0)) roll n i g else g) (by omega) (by omega) (Gd_if hG hR (by omega))
    rw [tickL, ← ih']
    by_cases h0 : g (132 + i) = 0
    · obtain ⟨⟨c, s, w, k', a1, a2, a3, a4, a5, a6, a7, a8, a9, a10, a11⟩, hl⟩ := hG.2.2.2.2.2.1 i (by omega) h0
      obtain ⟨j6, b1, b2, b3⟩ := hR.2.2.2.2.2.1
      obtain ⟨j7, c1', c2', c3'⟩ := hR.2.2.2.2.2.2.1
      have ha := x_body (q := q) (r := r) (x := x) (roll := roll) hn h12 (by omega) a1 a2 a9 a8 a11 a6 a7 hl h0 (by rw [a5]; exact nI_ne0 a3 a4) b3 (by omega) (by omega) c3' (by omega) (by omega)
      have e : ∀ (o : Option (Int32 × St)) (fT fF : Int32 → St → Option (Unit × St)) (K : St → Option (Unit × St)), bd (bd o fun r6 σ5 => (if r6 = 0 then fF r6 σ5 else fT r6 σ5)) (fun _ s => K s) = bd o fun r6 σ5 => (if r6 = 0 then bd (fF r6 σ5) (fun _ s => K s) else bd (fT r6 σ5) (fun _ s => K s)) := by
        intro o fT fF K
        cases o with
        | none => rfl
        | some p =>
          obtain ⟨p1, p2⟩ := p
          rw [bd_i, bd_i]
          split <;> rfl
      have e2 : ∀ (o : Option (Int32 × St)) (F : Int32 → St → Option (Unit × St)) (K : St → Option (Unit × St)), bd (bd o F) (fun _ s => K s) = bd o fun a s => bd (F a s) (fun _ s => K s) := by
        intro o F K
        cases o with
        | none => rfl
        | some p => rfl
      have hb : bd (bodyX q r i roll (px q x g)) (fun _ s => L_X6_passTick_2 q r roll f (nI (i + 1)) s kx) = L_X6_passTick_2 q r roll f (nI (i + 1)) (px q x (actD (x.1 (4, r, 0)) roll n i g)) kx := by rw [ha, bd_i]
      rw [if_pos h0, ← hb, bodyX, e]
      simp (disch := omega) only [L_X6_passTick_2, px_s2, hn, i_le, h1, ↓reduceIte, inb_i, ck_i, nI_clamp, px_d3, h0, nam_i, i_al, e2]
    · simp (disch := omega) only [L_X6_passTick_2, px_s2, hn, i_le, h1, ↓reduceIte, inb_i, ck_i, nI_clamp, px_d3, h0, nam_i, i_al]
/-- a whole tick -/
def tickG (R : Nat → Int32) (roll : Int32) (n : Nat) (g : Nat → Int32) : Nat → Int32 := nam (tickL R roll n n 0 g) fun g1 => upd g1 168 (g1 168 + 1)
theorem x_tick {q r : Nat} {x : St} {n : Nat} {roll : Int32} {g : Nat → Int32} (hR : RG (x.1 (4, r, 0))) (hG : Gd n g) : F_X6_passTick q r roll (px q x g) = some ((), px q x (tickG (x.1 (4, r, 0)) roll n g)) := by
  unfold F_X6_passTick
  have h12 := hG.1
  refine (x_tickL hR _ n 0 FU g (by omega) (by unfold FU; omega) hG).trans ?_
  simp only [nam_i, px_s4, pu_s4, tickG]
theorem Gd_168 {n : Nat} {g : Nat → Int32} {v : Int32} (hG : Gd n g) : Gd n (upd g 168 v) := by
  obtain ⟨h1, h2, h3, h4, h5, h6, h7⟩ := hG
  refine ⟨h1, by rw [pk_un (by omega), h2], fun c hc => by rw [pk_un (by omega)]; exact h3 c hc, by rw [pk_un (by omega)]; exact h4, by rw [pk_un (by omega)]; exact h5, ?_, ?_⟩
  · intro d hd hg
    rw [pk_un (by omega)] at hg
    obtain ⟨⟨c, s, w, k, a1, a2, a3, a4, a5, a6, a7, a8, a9⟩, b⟩ := h6 d hd hg
    refine ⟨⟨c, s, w, k, a1, by rw [pk_un (by omega), a2], a3, a4, by rw [pk_un (by omega), a5], a6, by rw [pk_un (by omega), a7], by rw [pk_un (by omega), a8], a9⟩, ?_⟩
    intro e he hne
    rw [pk_un (by omega), pk_un (by omega), pk_un (by omega)]
    exact b e he hne
  · rw [sm_cong (f' := tz (upd g 168 v)) (f := tz g) (fun e he => by rw [tz, tz, pk_un (by omega), pk_un (by omega)])]
    exact h7
theorem Gd_tick {R : Nat → Int32} {roll : Int32} {n : Nat} {g : Nat → Int32} (hR : RG R) (hG : Gd n g) : Gd n (tickG R roll n g) := by
  unfold tickG
  rw [nam_i]
  exact Gd_168 (Gd_tickL hR n 0 g (by omega) hG)
theorem Eqv_tick {R : Nat → Int32} {roll : Int32} {n : Nat} {g g' : Nat → Int32} (hR : RG R) (hG : Gd n g) (hE : Eqv n g g') : Eqv n (tickG R roll n g) (tickG R roll n g') := by
  unfold tickG
  rw [nam_i, nam_i]
  have := Eqv_tickL (R := R) (roll := roll) hR n 0 g g' (by omega) hG hE
  exact Eqv_upd this (by rw [this.s (by omega) (by omega)])
theorem tick_hi {R : Nat → Int32} {roll : Int32} {n : Nat} {g : Nat → Int32} (h12 : n ≤ 12) {j : Nat} (hj : 177 ≤ j) : tickG R roll n g j = g j := by
  unfold tickG
  rw [nam_i, pk_un (by omega), tickL_hi h12 hj n 0 g (by omega)]
