/-! mend: runs of one drop, what they depend on -/
theorem upd_sw {f : Nat → Int32} {a b : Nat} {x y : Int32} (h : a ≠ b) : upd (upd f a x) b y = upd (upd f b y) a x := by
  funext i
  by_cases h1 : i = b
  · subst h1; rw [pk_us, pk_un (Ne.symm h), pk_us]
  · rw [pk_un h1]
    by_cases h2 : i = a
    · subst h2; rw [pk_us, pk_us]
    · rw [pk_un h2, pk_un h2, pk_un h1]
theorem rcN_lim {R : Nat → Int32} {tg : Int32} {e : Nat} : ∀ (k : Nat) (g : Nat → Int32), rcN R tg k g = match rcN R tg (k + e) g with | some T => if T < k then some T else none | none => none := by
  intro k
  induction k with
  | zero =>
    intro g
    rw [rcN]
    cases rcN R tg (0 + e) g with
    | none => rfl
    | some T => simp only [Nat.not_lt_zero, ↓reduceIte]
  | succ k ih =>
    intro g
    have e1 : k + 1 + e = (k + e) + 1 := by omega
    rw [e1, rcN, rcN]
    by_cases h1 : g 96 = tg
    · rw [if_pos h1, if_pos h1]
      simp only [Nat.zero_lt_succ, ↓reduceIte]
    · rw [if_neg h1, if_neg h1]
      by_cases h2 : g 132 = 0
      · rw [if_pos h2, if_pos h2, ih]
        cases rcN R tg (k + e) (tickG R 0 1 g) with
        | none => rfl
        | some T =>
          by_cases h3 : T < k
          · have h4 : T + 1 < k + 1 := by omega
            simp only [h3, h4, ↓reduceIte, Option.map]
          · have h4 : ¬ T + 1 < k + 1 := by omega
            simp only [h3, h4, ↓reduceIte, Option.map]
      · rw [if_neg h2, if_neg h2]
theorem rcN_b {R : Nat → Int32} {tg : Int32} {T : Nat} : ∀ (k : Nat) (g : Nat → Int32), rcN R tg k g = some T → T < k := by
  intro k g h
  have := rcN_lim (R := R) (tg := tg) (e := 0) k g
  rw [Nat.add_zero, h] at this
  by_cases z : T < k
  · exact z
  · simp only [z, ↓reduceIte] at this
    cases this
theorem rcN_cong {m : St} {tg : Int32} (hR : RG (m.1 (43, 0, 0))) : ∀ (k : Nat) (g g' : Nat → Int32), Gd 1 g → Gd 1 g' → Ag m g → Ag m g' → poG m g' = poG m g → g' 168 = g 168 → rcN (m.1 (43, 0, 0)) tg k g' = rcN (m.1 (43, 0, 0)) tg k g := by
  intro k
  induction k with
  | zero => intro g g' _ _ _ _ _ _; rfl
  | succ k ih =>
    intro g g' hG hG' hA hA' hp ht
    have e1 : g' 96 = g 96 := by
      have := congrArg (fun σ : St => σ.1 (40, 0, 0) 15) hp
      have a : (poG m g').1 (40, 0, 0) 15 = g' 96 := po_15
      have b : (poG m g).1 (40, 0, 0) 15 = g 96 := po_15
      rw [← a, ← b]
      exact this
    have e2 : g' 132 = g 132 := by
      have := congrArg (fun σ : St => σ.1 (40, 0, 0) 18) hp
      have a : (poG m g').1 (40, 0, 0) 18 = g' 132 := po_18
      have b : (poG m g).1 (40, 0, 0) 18 = g 132 := po_18
      rw [← a, ← b]
      exact this
    rw [rcN, rcN, e1, e2]
    by_cases h1 : g 96 = tg
    · rw [if_pos h1, if_pos h1]
    · rw [if_neg h1, if_neg h1]
      by_cases h2 : g 132 = 0
      · rw [if_pos h2, if_pos h2]
        have h2' : g' 132 = 0 := by rw [e2, h2]
        have hk := (hG.2.2.2.2.2.1 0 (by omega) h2).1
        have hk' := (hG'.2.2.2.2.2.1 0 (by omega) h2').1
        have s1 := m_one hR hA hk h2 rfl
        have s2 := m_one hR hA' hk' h2' rfl
        rw [ht, hp, s1] at s2
        have s3 := (Prod.mk.inj (Option.some.inj s2)).2
        rw [ih (tickG (m.1 (43, 0, 0)) 0 1 g) (tickG (m.1 (43, 0, 0)) 0 1 g') (Gd_tick hR hG) (Gd_tick hR hG') (Ag_tk hA) (Ag_tk hA') ?_ ?_]
        · rw [tk_po, tk_po, if_pos h2, if_pos h2', s3]
        · rw [tk_t, tk_t, ht]
      · rw [if_neg h2, if_neg h2]
/-- a cell where the drop is not, nor wall, hole or cold -/
def soft (k : Int32) : Prop := k ≠ 5 ∧ k ≠ 6 ∧ k ≠ 7
theorem up_o {g : Nat → Int32} {u k : Nat} {v x : Int32} (hu : u < 96) (hk : 96 ≤ k) : upd (upd g u v) k x = upd (upd g k x) u v := upd_sw (by omega)
theorem lose_u {g : Nat → Int32} {u : Nat} {v z : Int32} (hu : u < 96) : lose 0 z (upd g u v) = upd (lose 0 z g) u v := by
  unfold lose
  by_cases h : g 108 - z = 0 <;> simp (disch := omega) only [pk_un, Nat.add_zero, h, ↓reduceIte, endD] <;> repeat rw [up_o (u := u) hu (by omega)]
theorem step_u {g : Nat → Int32} {u : Nat} {v sd y to : Int32} (hu : u < 96) (hv : soft v) (hgu : soft (g u)) (hto : to = -4 ∨ ∃ q, q < 96 ∧ to = nI q) : stepG 1 0 (upd g u v) sd y to = upd (stepG 1 0 g sd y to) u v := by
  have k5 : (knd (upd g u v) to = 5) = (knd g to = 5) := by
    rcases hto with rfl | ⟨q, hq, rfl⟩
    · rfl
    · have n4 : ¬ nI q = -4 := by rw [i_nm4 (by omega)]; exact not_false
      rw [knd, knd, if_neg n4, if_neg n4, nI_clamp (by omega)]
      by_cases z : q = u
      · subst z; rw [pk_us]; exact propext ⟨fun h => absurd h hv.1, fun h => absurd h hgu.1⟩
      · rw [pk_un z]
  have k6 : (knd (upd g u v) to = 6) = (knd g to = 6) := by
    rcases hto with rfl | ⟨q, hq, rfl⟩
    · rfl
    · have n4 : ¬ nI q = -4 := by rw [i_nm4 (by omega)]; exact not_false
      rw [knd, knd, if_neg n4, if_neg n4, nI_clamp (by omega)]
      by_cases z : q = u
      · subst z; rw [pk_us]; exact propext ⟨fun h => absurd h hv.2.1, fun h => absurd h hgu.2.1⟩
      · rw [pk_un z]
  unfold stepG
  rw [fnd_self, fnd_self]
  by_cases h5 : knd g to = 5
  · simp (disch := omega) only [k5, h5, ↓reduceIte, Nat.add_zero]
    repeat rw [up_o (u := u) hu (by omega)]
  · by_cases h6 : knd g to = 6
    · rw [if_neg (by rw [k5]; exact h5), if_pos (by rw [k6]; exact h6), if_neg h5, if_pos h6]
      simp (disch := omega) only [endD, pk_un, Nat.add_zero]
      repeat rw [up_o (u := u) hu (by omega)]
    · rw [if_neg (by rw [k5]; exact h5), if_neg (by rw [k6]; exact h6), if_neg h5, if_neg h6]
      simp only [joinG, Nat.add_zero]
      repeat rw [up_o (u := u) hu (by omega)]
theorem act_u {R g : Nat → Int32} {u : Nat} {v : Int32} (hk : dok g 0) (hu : u < 96) (hne : g 96 ≠ nI u) (hv : soft v) (hgu : soft (g u)) : actD R 0 1 0 (upd g u v) = upd (actD R 0 1 0 g) u v := by
  obtain ⟨c, s, w, k, a1, a2, a3, a4, a5, a6, a7, a8, a9, a10, a11⟩ := hk
  rw [Nat.add_zero] at a2 a5 a7
  have hcu : c ≠ u := fun e => hne (by rw [a2, e])
  have cl : (nI c).toNatClampNeg = c := nI_clamp (by omega)
  unfold actD
  simp only [Nat.add_zero]
  have e96 : (upd g u v) 96 = nI c := by rw [pk_un (by omega), a2]
  have e170 : (upd g u v) 170 = g 170 := pk_un (by omega)
  have e169 : (upd g u v) 169 = g 169 := pk_un (by omega)
  have e168 : (upd g u v) 168 = g 168 := pk_un (by omega)
  have e108 : (upd g u v) 108 = g 108 := pk_un (by omega)
  have ec : (upd g u v) c = g c := pk_un hcu
  rw [e96, a2, cl, e170, e169, e168, e108, ec, lose_u hu, lose_u hu]
  split
  · rfl
  · rw [nam_i, nam_i]
    generalize hg1 : lose 0 (thn R (g 108) (g 168)) g = g1
    have k1 : g1 96 = nI c := by rw [← hg1, lose_at (by omega) (by omega) (by omega) (by omega), a2]
    have k2 : g1 c = nI k := by rw [← hg1, lose_at (by omega) (by omega) (by omega) (by omega), a8]
    have k3 : g1 120 = nI w := by rw [← hg1, lose_at (by omega) (by omega) (by omega) (by omega), a7]
    have ku : g1 u = g u := by rw [← hg1, lose_at (by omega) (by omega) (by omega) (by omega)]
    have f132 : (upd g1 u v) 132 = g1 132 := pk_un (by omega)
    have f108 : (upd g1 u v) 108 = g1 108 := pk_un (by omega)
    have f173 : (upd g1 u v) 173 = g1 173 := pk_un (by omega)
    rw [f132, f108, f173]
    split
    · split
      · unfold goOn
        have f96 : (upd g1 u v) 96 = nI c := by rw [pk_un (by omega), k1]
        have f120 : (upd g1 u v) 120 = nI w := by rw [pk_un (by omega), k3]
        have f175 : (upd g1 u v) 175 = g1 175 := pk_un (by omega)
        have fc : (upd g1 u v) c = nI k := by rw [pk_un hcu, k2]
        rw [nam_i, nam_i]
        simp only [Nat.add_zero]
        rw [f96, f108, f120, f175, k1, cl, fc, k2, k3]
        obtain ⟨j, hj, hje⟩ := wayv_in (R := R) (roll := 0) (s := g1 108) (sd := g1 175) a9 a6
        rw [hje]
        refine step_u hu hv (by rw [ku]; exact hgu) ?_
        rcases nx_in c a1 j hj with h | ⟨q, hq, h, hqc⟩
        · exact Or.inl h
        · exact Or.inr ⟨q, hq, h⟩
      · simp (disch := omega) only [endD, pk_un, Nat.add_zero]
        repeat rw [up_o (u := u) hu (by omega)]
    · rfl
theorem mkT_1 {R : Nat → Int32} {tg : Int32} {u : Nat} : ∀ (k : Nat) (g a : Nat → Int32), a u = 1 → mkT R tg k g a u = 1 := by
  intro k
  induction k with
  | zero => intro g a h; exact h
  | succ k ih =>
    intro g a h
    have hu : ∀ j, upd a j 1 u = 1 := fun j => by
      by_cases e : u = j
      · subst e; exact pk_us
      · rw [pk_un e, h]
    rw [mkT]
    split
    · exact hu _
    · split
      · exact ih _ _ (hu _)
      · exact hu _
theorem rcN_u {R : Nat → Int32} {tg : Int32} {u : Nat} {v : Int32} (hR : RG R) (hu : u < 96) (hv : soft v) : ∀ (k : Nat) (g a : Nat → Int32), Gd 1 g → InC g → soft (g u) → ¬ mkT R tg k g a u = 1 → rcN R tg k (upd g u v) = rcN R tg k g := by
  intro k
  induction k with
  | zero => intro g a _ _ _ _; rfl
  | succ k ih =>
    intro g a hG hI hs hm
    obtain ⟨c, hc, hce⟩ := hI
    have e96 : (upd g u v) 96 = g 96 := pk_un (by omega)
    have e132 : (upd g u v) 132 = g 132 := pk_un (by omega)
    have hne : g 96 ≠ nI u := by
      intro e
      apply hm
      rw [hce, i_eq (by omega) (by omega)] at e
      subst e
      have : upd a (g 96).toNatClampNeg 1 c = 1 := by rw [hce, nI_clamp (by omega)]; exact pk_us
      rw [mkT]
      split
      · exact this
      · split
        · exact mkT_1 _ _ _ this
        · exact this
    rw [rcN, rcN, e96, e132]
    by_cases h1 : g 96 = tg
    · rw [if_pos h1, if_pos h1]
    · rw [if_neg h1, if_neg h1]
      by_cases h2 : g 132 = 0
      · rw [if_pos h2, if_pos h2]
        have hk := (hG.2.2.2.2.2.1 0 (by omega) h2).1
        have e : tickG R 0 1 (upd g u v) = upd (tickG R 0 1 g) u v := by
          rw [tk_u, tk_u, e132, if_pos h2, if_pos h2, act_u hk hu hne hv hs, pk_un (by omega), up_o hu (by omega)]
        rw [mkT, if_neg h1, if_pos h2] at hm
        rw [e, ih _ _ (Gd_tick hR hG) (InC_tk hG hR ⟨c, hc, hce⟩) (by rw [tk_lo (Or.inl hu)]; exact hs) hm]
      · rw [if_neg h2, if_neg h2]
