/-! one drop's tick: the class's side -/
theorem x_value {q : Nat} {σ : St} {k : Nat} (hk : k < 9) : F_X5_value q (nI k) σ = some (σ.1 (4, q, 0) k, σ) := by
  have h1 : ¬ nI k < 0 := nI_pos (by omega)
  have h2 : ¬ 9 ≤ k := by omega
  simp (disch := omega) only [F_X5_value, h1, i_lel, h2, ↓reduceIte, inb_i, ck_i, nI_clamp]
theorem x_valueL {q : Nat} {σ : St} {k : Nat} (hk : (OfNat.ofNat k : Nat) < 9) : F_X5_value q (no_index (OfNat.ofNat k)) σ = some (σ.1 (4, q, 0) (OfNat.ofNat k), σ) := x_value hk
theorem x_touches {q : Nat} {x : St} {g : Nat → Int32} {d c : Nat} (hd : d < 12) (hc : c < 96) (hac : g (96 + d) = nI c) : F_X6_touches q q d (px q x g) = some (if g 170 = 0 ∨ g c = 7 then 1 else 0, px q x g) := by
  by_cases h1 : g 170 = 0
  · simp (disch := omega) only [F_X6_touches, px_s6, h1, ↓reduceIte, true_or]
  · by_cases h2 : g c = 7 <;> simp (disch := omega) only [F_X6_touches, px_s6, px_d0, hac, x_kind, bd_i, h1, h2, ↓reduceIte, false_or]
theorem x_lossT {q : Nat} {σ : St} {j : Nat} {h : Int32} (h6 : σ.1 (4, q, 0) 6 = nI j) (hj : 0 < j) (hj2 : j < 2 ^ 31) : F_X5_lossTouching q h σ = some (1 + h / σ.1 (4, q, 0) 6, σ) := by
  have a1 : ¬ nI j ≤ 0 := nI_nle hj hj2
  have a2 : ¬ nI j = 0 := nI_ne0 hj hj2
  simp (disch := omega) only [F_X5_lossTouching, inb_l, ck_i, nam_i, h6, a1, a2, ↓reduceIte, not_false_eq_true, decide_true]
theorem x_losesF {q : Nat} {σ : St} {j : Nat} {t : Int32} (h7 : σ.1 (4, q, 0) 7 = nI j) (hj : 0 < j) (hj2 : j < 2 ^ 31) : F_X5_losesFloatingAt q t σ = some (if t - t / σ.1 (4, q, 0) 7 * σ.1 (4, q, 0) 7 = 0 then 1 else 0, σ) := by
  have a1 : ¬ nI j ≤ 0 := nI_nle hj hj2
  have a2 : ¬ nI j = 0 := nI_ne0 hj hj2
  by_cases a3 : t - t / nI j * nI j = 0 <;> simp (disch := omega) only [F_X5_losesFloatingAt, inb_l, ck_i, nam_i, h7, a1, a2, a3, ↓reduceIte, not_false_eq_true, decide_true]
theorem x_lossF {q : Nat} {σ : St} {s : Int32} : F_X5_lossFloating q s σ = some (if s < σ.1 (4, q, 0) 5 then 1 else 2, σ) := by
  by_cases a3 : s < σ.1 (4, q, 0) 5 <;> simp (disch := omega) only [F_X5_lossFloating, F_X5_hasChimney, inb_l, ck_i, bd_i, a3, ↓reduceIte, ft10]
theorem x_teeth {q : Nat} {σ : St} {s : Int32} : F_X5_teethSend q s σ = some (if s < σ.1 (4, q, 0) 2 then 0 else if σ.1 (4, q, 0) 3 < s then 0 else 1, σ) := by
  by_cases a2 : s < σ.1 (4, q, 0) 2
  · simp (disch := omega) only [F_X5_teethSend, inb_l, ck_i, a2, ↓reduceIte]
  · by_cases a3 : σ.1 (4, q, 0) 3 < s <;> simp (disch := omega) only [F_X5_teethSend, inb_l, ck_i, a2, a3, ↓reduceIte]
theorem x_draw {q : Nat} {x : St} {g : Nat → Int32} : F_X6_drawWay q (px q x g) = some (drv (drw (g 175)), px q x (upd g 175 (drw (g 175)))) := by
  simp (disch := omega) only [F_X6_drawWay, nam_i, px_s5, pu_s5, pk_us, drv_u]
  rfl
theorem x_way {q r : Nat} {x : St} {g : Nat → Int32} {roll : Int32} {d c : Nat} (hd : d < 12) (hc : c < 96) (hac : g (96 + d) = nI c) : F_X6_wayOf q q d r roll (px q x g) = some ((wayv (x.1 (4, r, 0)) roll (g c) (g (108 + d)) (g (120 + d)) (g 175)).1, px q x (upd g 175 (wayv (x.1 (4, r, 0)) roll (g c) (g (108 + d)) (g (120 + d)) (g 175)).2)) := by
  unfold wayv
  by_cases h4 : 4 ≤ g c
  · by_cases h5 : roll < g (108 + d) <;> simp (disch := omega) only [F_X6_wayOf, px_d0, px_d1, px_d2, hac, x_kind, bd_i, h4, h5, ↓reduceIte, upd_id, x_draw]
  · by_cases h5 : g (108 + d) < x.1 (4, r, 0) 2
    · simp (disch := omega) only [F_X6_wayOf, px_d0, px_d1, px_d2, px_t, hac, x_kind, bd_i, h4, h5, ↓reduceIte, upd_id, x_teeth]
    · by_cases h6 : x.1 (4, r, 0) 3 < g (108 + d) <;> simp (disch := omega) only [F_X6_wayOf, px_d0, px_d1, px_d2, px_t, hac, x_kind, bd_i, h4, h5, h6, ↓reduceIte, upd_id, x_teeth, ft10]
theorem x_joinL {q : Nat} {x : St} {g : Nat → Int32} {n d : Nat} (hn : g 176 = nI n) (h12 : n ≤ 12) (hd : d < 12) (kx : Int32 → Nat → Nat → St → Option (Unit × St)) : ∀ (k i fu : Nat), i + k = n → k < fu → L_X6_joinWhoIsThere_2 q q d fu (nI i) (px q x g) kx = match fnd (pC g (g (96 + d)) (nI d)) k i with | none => some ((), px q x g) | some e => kx (nI e) q e (px q x g) := by
  intro k
  induction k with
  | zero =>
    intro i fu hi hf
    obtain ⟨f, rfl⟩ : ∃ f, fu = f + 1 := ⟨fu - 1, by omega⟩
    have : n = i := by omega
    subst this
    simp (disch := omega) only [L_X6_joinWhoIsThere_2, px_s2, hn, i_le, Nat.le_refl, ↓reduceIte, fnd]
  | succ k ih =>
    intro i fu hi hf
    obtain ⟨f, rfl⟩ : ∃ f, fu = f + 1 := ⟨fu - 1, by omega⟩
    have h1 : ¬ n ≤ i := by omega
    have ih' := ih (i + 1) f (by omega) (by omega)
    by_cases h2 : i = d
    · subst h2
      have e : pC g (g (96 + i)) (nI i) i = false := by simp only [pC, decide_true, Bool.not_true, Bool.false_and]
      rw [fnd, e, if_neg (by decide), ← ih']
      simp (disch := omega) only [L_X6_joinWhoIsThere_2, px_s2, hn, i_le, h1, ↓reduceIte, inb_i, ck_i, nI_clamp, nam_i, i_al]
    · have h2' : ¬ nI i = nI d := by rw [i_eq (by omega) (by omega)]; exact h2
      have h2i : ¬ ((10, q, i) : Id3) = (10, q, d) := fun e => h2 (Prod.mk.inj (Prod.mk.inj e).2).2
      by_cases h3 : g (132 + i) = 0
      · by_cases h4 : g (96 + i) = g (96 + d)
        · have e : pC g (g (96 + d)) (nI d) i = true := by simp only [pC, h2', h3, h4, decide_true, decide_false, Bool.not_false, Bool.and_self]
          rw [fnd, e, if_pos rfl]
          simp (disch := omega) only [L_X6_joinWhoIsThere_2, px_s2, px_d3, px_d0, hn, i_le, h1, ↓reduceIte, inb_i, ck_i, nI_clamp, h2i, h3, h4]
        · have e : pC g (g (96 + d)) (nI d) i = false := by simp only [pC, h2', h3, h4, decide_true, decide_false, Bool.not_false, Bool.and_false]
          rw [fnd, e, if_neg (by decide), ← ih']
          simp (disch := omega) only [L_X6_joinWhoIsThere_2, px_s2, px_d3, px_d0, hn, i_le, h1, ↓reduceIte, inb_i, ck_i, nI_clamp, h2i, h3, h4, nam_i, i_al]
      · have e : pC g (g (96 + d)) (nI d) i = false := by simp only [pC, h2', h3, decide_false, Bool.not_false, Bool.false_and, Bool.and_false]
        rw [fnd, e, if_neg (by decide), ← ih']
        simp (disch := omega) only [L_X6_joinWhoIsThere_2, px_s2, px_d3, px_d0, hn, i_le, h1, ↓reduceIte, inb_i, ck_i, nI_clamp, h2i, h3, nam_i, i_al]
theorem x_join {q : Nat} {x : St} {g : Nat → Int32} {n d : Nat} (hn : g 176 = nI n) (h12 : n ≤ 12) (hd : d < 12) : F_X6_joinWhoIsThere q q d (px q x g) = some ((), px q x (joinG g g d (fnd (pC g (g (96 + d)) (nI d)) n 0))) := by
  unfold F_X6_joinWhoIsThere
  have := x_joinL (q := q) (x := x) hn h12 hd (fun (y10 : Int32) (y11q : Nat) (y11i : Nat) (σ9 : St) => nam (uI σ9 (10, y11q, y11i) 1 ((σ9.1 (10, y11q, y11i) 1) + (σ9.1 (10, q, d) 1))) fun σ12 => nam (uI σ12 (10, q, d) 5 y10) fun σ13 => bd (F_X6_leave q q d (4 : Int32) σ13) fun _ σ14 => some ((), σ14)) n 0 FU (by omega) (by unfold FU; omega)
  refine this.trans ?_
  cases hf : fnd (pC g (g (96 + d)) (nI d)) n 0 with
  | none => rfl
  | some e =>
    have he := fnd_some hf
    have hed : e < 12 := by omega
    simp (disch := omega) only [joinG, nam_i, px_d1, pu_d1, pu_d5, x_leave, bd_i]
theorem x_step {q : Nat} {x : St} {g : Nat → Int32} {d c j : Nat} (hd : d < 12) (hc : c < 96) (hj : j < 4) (hac : g (96 + d) = nI c) : F_X6_stepOn q q d (nI j) (px q x g) = some ((), px q x (if knd g (nx (nI c) (nI j)) = 5 then upd g (120 + d) ((nI j + 1) &&& 3) else upd (upd g (96 + d) (nx (nI c) (nI j))) (120 + d) (nI j))) := by
  rcases nx_in c hc j hj with h | ⟨t, ht, h, htc⟩
  · have hk : knd g (-4) = 5 := rfl
    simp (disch := omega) only [F_X6_stepOn, px_d0, hac, x_next, bd_i, h, x_kind4, ↓reduceIte, nam_i, pu_d2, hk]
  · have hk : knd g (nI t) = g t := by
      rw [knd, if_neg (by rw [i_nm4 (by omega)]; exact not_false), nI_clamp (by omega)]
    by_cases h5 : g t = 5 <;> simp (disch := omega) only [F_X6_stepOn, px_d0, hac, x_next, bd_i, h, x_kind, ↓reduceIte, nam_i, pu_d2, pu_d0, hk, h5]
/-- no other is where drop d is -/
def lone (n d : Nat) (g : Nat → Int32) : Prop := ∀ e, e < n → e ≠ d → g (132 + e) = 0 → g (96 + e) ≠ g (96 + d)
theorem x_go {q r : Nat} {x : St} {g : Nat → Int32} {roll : Int32} {n d c k w : Nat} (hn : g 176 = nI n) (h12 : n ≤ 12) (hd : d < 12) (hc : c < 96) (hac : g (96 + d) = nI c) (hk : k < 8) (hgk : g c = nI k) (hk6 : k ≠ 6) (hw : w < 4) (hgw : g (120 + d) = nI w) (hl : lone n d g) : (bd (F_X6_wayOf q q d r roll (px q x g)) fun r10 σ9 => bd (F_X6_stepOn q q d r10 σ9) fun _ σ12 => bd (F_X6_kindAt q (σ12.1 (10, q, d) 0) σ12) fun r15 σ14 => (if r15 = (6 : Int32) then nam (uI σ14 (7, q, 0) 8 ((σ14.1 (7, q, 0) 8) + (σ14.1 (10, q, d) 1))) fun σ19 => bd (F_X6_leave q q d (2 : Int32) σ19) fun _ σ20 => some ((), σ20) else bd (F_X6_joinWhoIsThere q q d σ14) fun _ σ17 => some ((), σ17))) = some ((), px q x (goOn (x.1 (4, r, 0)) roll n d g)) := by
  obtain ⟨j, hj, hje⟩ := wayv_in (R := x.1 (4, r, 0)) (roll := roll) (s := g (108 + d)) (sd := g 175) hk hw
  have hcc : (nI c).toNatClampNeg = c := nI_clamp (by omega)
  have hac1 : ∀ sd, (upd g 175 sd) (96 + d) = nI c := fun sd => by rw [pk_un (by omega), hac]
  rw [x_way hd hc hac, bd_i, goOn, nam_i, hac, hcc, hgk, hgw, hje]
  generalize (wayv (x.1 (4, r, 0)) roll (nI k) (g (108 + d)) (nI w) (g 175)).2 = sd
  rw [x_step hd hc hj (hac1 sd), bd_i]
  unfold stepG
  have hkk : ∀ z, knd (upd g 175 sd) (nx (nI c) (nI j)) = z ↔ knd g (nx (nI c) (nI j)) = z := fun z => by
    rcases nx_in c hc j hj with h | ⟨t, ht, h, htc⟩
    · rw [h]; rfl
    · have a : ¬ nI t = -4 := by rw [i_nm4 (by omega)]; exact not_false
      rw [h, knd, knd, if_neg a, if_neg a, nI_clamp (by omega), pk_un (by omega)]
  by_cases h5 : knd g (nx (nI c) (nI j)) = 5
  · rw [if_pos ((hkk 5).mpr h5), if_pos h5]
    have hf : fnd (pC (upd (upd g 175 sd) (120 + d) ((nI j + 1) &&& 3)) ((upd (upd g 175 sd) (120 + d) ((nI j + 1) &&& 3)) (96 + d)) (nI d)) n 0 = none := by
      apply fnd_no
      intro e _ he
      by_cases h2 : e = d
      · simp only [pC, h2, decide_true, Bool.not_true, Bool.false_and]
      · by_cases h3 : g (132 + e) = 0
        · have := hl e (by omega) h2 h3
          simp (disch := omega) only [pC, pk_un, this, decide_false, Bool.and_false]
        · simp (disch := omega) only [pC, pk_un, h3, decide_false, Bool.and_false, Bool.false_and]
    have h6 : ¬ k = 6 := hk6
    simp (disch := first | omega | (rw [pk_un (by omega), pk_un (by omega), hac])) only [px_d0, pk_un, hac, x_kind, bd_i, hgk, i_eqr, h6, ↓reduceIte]
    rw [x_join (by rw [pk_un (by omega), pk_un (by omega), hn]) h12 hd, bd_i, hf]
    rfl
  · rw [if_neg (fun h => h5 ((hkk 5).mp h)), if_neg h5]
    rcases nx_in c hc j hj with h | ⟨t, ht, h, htc⟩
    · exact absurd (by rw [h]; rfl) h5
    · have hk' : knd g (nI t) = g t := by
        rw [knd, if_neg (by rw [i_nm4 (by omega)]; exact not_false), nI_clamp (by omega)]
      rw [h, hk'] at h5 ⊢
      by_cases h6 : g t = 6
      · simp (disch := omega) only [px_d0, px_d1, px_s8, pu_s8, pk_un, pk_us, x_kind, bd_i, h6, ↓reduceIte, nam_i, x_leave]
      · simp (disch := omega) only [px_d0, pk_un, pk_us, x_kind, bd_i, h6, ↓reduceIte]
        rw [x_join (by rw [pk_un (by omega), pk_un (by omega), pk_un (by omega), hn]) h12 hd, bd_i]
        have hf : fnd (pC (upd (upd (upd g 175 sd) (96 + d) (nI t)) (120 + d) (nI j)) ((upd (upd (upd g 175 sd) (96 + d) (nI t)) (120 + d) (nI j)) (96 + d)) (nI d)) n 0 = fnd (pC g (nI t) (nI d)) n 0 := by
          apply fnd_cong
          intro e _ he
          by_cases h2 : e = d
          · simp only [pC, h2, decide_true, Bool.not_true, Bool.false_and]
          · simp (disch := omega) only [pC, pk_un, pk_us]
        rw [hf]
        cases hfe : fnd (pC g (nI t) (nI d)) n 0 with
        | none => rfl
        | some e =>
          have he := fnd_some hfe
          have hed : e < 12 := by omega
          have hne : e ≠ d := by
            intro q
            subst q
            have := he.2.2
            simp only [pC, decide_true, Bool.not_true, Bool.false_and, Bool.false_eq_true] at this
          simp (disch := omega) only [joinG, pk_un]
theorem hss_x {R : Nat → Int32} {s h : Int32} : (if s < 1 + h / R 6 then s else 1 + h / R 6) = hss R s h := less_min _ _
/-- drop d's part of a tick, the class's -/
def bodyX (q r d : Nat) (roll : Int32) (τ : St) : Option (Unit × St) :=
  bd (F_X6_touches q q d τ) fun r6 σ5 => (if r6 = 0 then F_X6_floatOn q q d r roll σ5 else bd (F_X5_lossTouching r (σ5.1 (7, q, 0) 3) σ5) fun r11 σ10 => F_X6_loseSteam q q d r11 σ10)
theorem lose_0 {d : Nat} {g : Nat → Int32} (hd : d < 12) (h : g (108 + d) ≠ 0) : lose d 0 g = g := by
  have e1 : g (108 + d) - 0 = g (108 + d) := by rw [Int32.sub_zero]
  have e2 : g 171 + 0 = g 171 := by rw [Int32.add_zero]
  rw [lose, e1, e2, if_neg h, upd_id, upd_id]
theorem x_body {q r : Nat} {x : St} {g : Nat → Int32} {roll : Int32} {n d c k w j6 j7 : Nat} (hn : g 176 = nI n) (h12 : n ≤ 12) (hd : d < 12) (hc : c < 96) (hac : g (96 + d) = nI c) (hk : k < 8) (hgk : g c = nI k) (hk6 : k ≠ 6) (hw : w < 4) (hgw : g (120 + d) = nI w) (hl : lone n d g) (h3 : g (132 + d) = 0) (hs : g (108 + d) ≠ 0) (h6 : x.1 (4, r, 0) 6 = nI j6) (h60 : 0 < j6) (h61 : j6 < 2 ^ 31) (h7 : x.1 (4, r, 0) 7 = nI j7) (h70 : 0 < j7) (h71 : j7 < 2 ^ 31) : bodyX q r d roll (px q x g) = some ((), px q x (actD (x.1 (4, r, 0)) roll n d g)) := by
  have hcc : (nI c).toNatClampNeg = c := nI_clamp (by omega)
  have r4 : ∀ g' : Nat → Int32, (px q x g').1 (4, r, 0) = x.1 (4, r, 0) := fun g' => px_t (by omega) (by omega) (by omega)
  unfold bodyX actD
  rw [x_touches hd hc hac, bd_i, hac, hcc]
  by_cases ht : g 170 = 0 ∨ g c = 7
  · rw [if_pos ht, if_neg (by decide), if_pos ht, x_lossT (j := j6) (by rw [r4]; exact h6) h60 h61, bd_i, x_lose q hd, px_s3, r4, hss_x]
  · rw [if_neg ht, if_pos rfl, if_neg ht, F_X6_floatOn, x_losesF (j := j7) (by rw [r4]; exact h7) h70 h71, bd_i, px_s4, r4, nam_i]
    have key : ∀ g1 : Nat → Int32, g1 176 = nI n → g1 (96 + d) = nI c → g1 c = nI k → g1 (120 + d) = nI w → lone n d g1 → (if ((px q x g1).1 (10, q, d) 3) = 0 then bd (F_X5_value r (4 : Int32) (px q x g1)) fun r7 σ6 => (if r7 < ((px q x g1).1 (10, q, d) 1) then bd (F_X6_wayOf q q d r roll σ6) fun r10 σ9 => bd (F_X6_stepOn q q d r10 σ9) fun _ σ12 => bd (F_X6_kindAt q (σ12.1 (10, q, d) 0) σ12) fun r15 σ14 => (if r15 = (6 : Int32) then nam (uI σ14 (7, q, 0) 8 ((σ14.1 (7, q, 0) 8) + (σ14.1 (10, q, d) 1))) fun σ19 => bd (F_X6_leave q q d (2 : Int32) σ19) fun _ σ20 => some ((), σ20) else bd (F_X6_joinWhoIsThere q q d σ14) fun _ σ17 => some ((), σ17)) else nam (uI σ6 (7, q, 0) 9 ((σ6.1 (7, q, 0) 9) + (σ6.1 (10, q, d) 1))) fun σ23 => bd (F_X6_leave q q d (3 : Int32) σ23) fun _ σ24 => some ((), σ24)) else some ((), px q x g1)) = some ((), px q x (if g1 (132 + d) = 0 then (if x.1 (4, r, 0) 4 < g1 (108 + d) then goOn (x.1 (4, r, 0)) roll n d g1 else endD d 3 (upd g1 173 (g1 173 + g1 (108 + d)))) else g1)) := by
      intro g1 a1 a2 a3 a4 a5
      rw [px_d3 hd, px_d1 hd]
      by_cases b1 : g1 (132 + d) = 0
      · rw [if_pos b1, if_pos b1, x_valueL (by decide), bd_i, r4]
        by_cases b2 : x.1 (4, r, 0) 4 < g1 (108 + d)
        · rw [if_pos b2, if_pos b2]
          exact x_go a1 h12 hd hc a2 hk a3 hk6 hw a4 a5
        · rw [if_neg b2, if_neg b2]
          simp (disch := omega) only [px_d1, px_s9, pu_s9, nam_i, x_leave, bd_i]
      · rw [if_neg b1, if_neg b1]
    rw [nam_i]
    by_cases hf : g 168 - g 168 / x.1 (4, r, 0) 7 * x.1 (4, r, 0) 7 = 0
    · rw [if_pos hf, if_neg (by decide), x_lossF, bd_i, px_d1 hd, r4, x_lose q hd, bd_i, less_min]
      have ht : thn (x.1 (4, r, 0)) (g (108 + d)) (g 168) = lessI (g (108 + d)) (if g (108 + d) < x.1 (4, r, 0) 5 then 1 else 2) := by rw [thn, if_pos hf]
      rw [ht]
      generalize lessI (g (108 + d)) (if g (108 + d) < x.1 (4, r, 0) 5 then 1 else 2) = z
      refine key _ ?_ ?_ ?_ ?_ ?_
      · rw [lose_at (by omega) (by omega) (by omega) (by omega), hn]
      · rw [lose_at (by omega) (by omega) (by omega) (by omega), hac]
      · rw [lose_at (by omega) (by omega) (by omega) (by omega), hgk]
      · rw [lose_at (by omega) (by omega) (by omega) (by omega), hgw]
      · intro e he hne
        rw [lose_at (by omega) (by omega) (by omega) (by omega), lose_at (by omega) (by omega) (by omega) (by omega), lose_at (by omega) (by omega) (by omega) (by omega)]
        exact hl e he hne
    · rw [if_neg hf, if_pos rfl]
      have ht : thn (x.1 (4, r, 0)) (g (108 + d)) (g 168) = 0 := by rw [thn, if_neg hf]
      rw [ht, lose_0 hd hs]
      exact key g hn hac hgk hgw hl
