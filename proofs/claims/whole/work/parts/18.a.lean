/-! ring, falls: a walk without an end to it -/
def wyB (b : Bool) (k w : Int32) : Int32 := if 4 ≤ k then w else if b then k else w
def tsB (R : Nat → Int32) (s : Int32) : Bool := decide (¬ s < R 2 ∧ ¬ R 3 < s)
theorem wy_B {R : Nat → Int32} {k s w : Int32} : wy R k s w = wyB (tsB R s) k w := by
  unfold wy wyB tsB
  by_cases h2 : s < R 2
  · simp only [h2, not_true_eq_false, false_and, decide_false, Bool.false_eq_true, ↓reduceIte]
  · by_cases h3 : R 3 < s <;> simp only [h2, h3, not_true_eq_false, not_false_eq_true, and_false, and_self, decide_false, decide_true, Bool.false_eq_true, ↓reduceIte]
def stq (b : Bool) (g : Nat → Int32) (c w : Nat) : Nat × Nat × Bool := nam (wyB b (g c) (nI w)) fun y => nam (nx (nI c) y) fun to => if knd g to = 5 then (c, ((y + 1) &&& 3).toNatClampNeg, false) else (to.toNatClampNeg, y.toNatClampNeg, decide (knd g to = 6))
theorem wyB_in {b : Bool} {k w : Nat} (hk : k < 8) (hw : w < 4) : ∃ j, j < 4 ∧ wyB b (nI k) (nI w) = nI j := by
  unfold wyB
  split
  · exact ⟨w, hw, rfl⟩
  · rename_i h
    rw [i_lel (by decide) (by omega)] at h
    split
    · exact ⟨k, by omega, rfl⟩
    · exact ⟨w, hw, rfl⟩
theorem rot3 : ∀ j, j < 4 → ∃ i, i < 4 ∧ (nI j + 1) &&& (3 : Int32) = nI i := by
  intro j hj
  have : j = 0 ∨ j = 1 ∨ j = 2 ∨ j = 3 := by omega
  rcases this with rfl | rfl | rfl | rfl
  · exact ⟨1, by omega, rfl⟩
  · exact ⟨2, by omega, rfl⟩
  · exact ⟨3, by omega, rfl⟩
  · exact ⟨0, by omega, rfl⟩
/-- where a drop may walk -/
def wok (g : Nat → Int32) (c w : Nat) : Prop := c < 96 ∧ w < 4 ∧ ∃ k, k < 8 ∧ k ≠ 5 ∧ k ≠ 6 ∧ g c = nI k
theorem stq_ok {b : Bool} {g : Nat → Int32} {c w : Nat} (hg : ∀ c, c < 96 → ∃ k, k < 8 ∧ g c = nI k) (h : wok g c w) : ∃ j, j < 4 ∧ wyB b (g c) (nI w) = nI j ∧
    ((knd g (nx (nI c) (nI j)) = 5 ∧ ∃ i, i < 4 ∧ (nI j + 1) &&& (3 : Int32) = nI i ∧ stq b g c w = (c, i, false)) ∨
     (∃ q, q < 96 ∧ nx (nI c) (nI j) = nI q ∧ g q = 6 ∧ stq b g c w = (q, j, true)) ∨
     (∃ q, q < 96 ∧ nx (nI c) (nI j) = nI q ∧ ¬ g q = 5 ∧ ¬ g q = 6 ∧ stq b g c w = (q, j, false) ∧ wok g q j)) := by
  obtain ⟨hc, hw, k, hk, h5, h6, hgk⟩ := h
  obtain ⟨j, hj, hje⟩ := wyB_in (b := b) hk hw
  refine ⟨j, hj, by rw [hgk, hje], ?_⟩
  have es : stq b g c w = if knd g (nx (nI c) (nI j)) = 5 then (c, ((nI j + 1) &&& 3).toNatClampNeg, false) else ((nx (nI c) (nI j)).toNatClampNeg, (nI j).toNatClampNeg, decide (knd g (nx (nI c) (nI j)) = 6)) := by
    unfold stq
    rw [nam_i, hgk, hje, nam_i]
  rw [es]
  by_cases z5 : knd g (nx (nI c) (nI j)) = 5
  · left
    obtain ⟨i, hi, hie⟩ := rot3 j hj
    refine ⟨z5, i, hi, hie, ?_⟩
    rw [if_pos z5, hie, nI_clamp (by omega)]
  · right
    rcases nx_in c hc j hj with h | ⟨q, hq, h, hqc⟩
    · rw [h] at z5; exact absurd rfl z5
    · have hkn : knd g (nI q) = g q := by
        rw [knd, if_neg (by rw [i_nm4 (by omega)]; exact not_false), nI_clamp (by omega)]
      rw [h, hkn] at z5
      rw [h, hkn, if_neg z5, nI_clamp (by omega), nI_clamp (by omega)]
      by_cases z6 : g q = 6
      · left
        exact ⟨q, hq, rfl, z6, by rw [z6]; rfl⟩
      · right
        obtain ⟨k', hk', hg'⟩ := hg q hq
        refine ⟨q, hq, rfl, z5, z6, by simp only [z6, decide_false], hq, hj, k', hk', ?_, ?_, hg'⟩
        · rintro rfl; exact z5 (by rw [hg']; rfl)
        · rintro rfl; exact z6 (by rw [hg']; rfl)
def wk (b : Bool) (g : Nat → Int32) : Nat → Nat → Nat → Nat → (Nat → Option Nat) → Option Nat × Nat × Nat × Nat × (Nat → Option Nat)
  | 0, t, c, w, sn => (none, t, c, w, sn)
  | k + 1, t, c, w, sn => if sn (4 * c + w) = none then (if (stq b g c w).2.2 then (some (stq b g c w).1, t + 1, (stq b g c w).1, (stq b g c w).2.1, fun j => if j = 4 * c + w then some t else sn j) else wk b g k (t + 1) (stq b g c w).1 (stq b g c w).2.1 (fun j => if j = 4 * c + w then some t else sn j)) else (none, t, c, w, sn)
def cnt (sn : Nat → Option Nat) : Nat → Nat
  | 0 => 0
  | n + 1 => cnt sn n + (if sn n = none then 1 else 0)
theorem cnt_0 {sn : Nat → Option Nat} : ∀ {n : Nat}, cnt sn n = 0 → ∀ j, j < n → ¬ sn j = none := by
  intro n
  induction n with
  | zero => intro _ j hj; omega
  | succ n ih =>
    intro h j hj
    rw [cnt] at h
    by_cases z : sn n = none
    · rw [if_pos z] at h; omega
    · rcases Nat.lt_or_ge j n with q | q
      · exact ih (by omega) j q
      · rw [show j = n by omega]; exact z
theorem cnt_out {sn : Nat → Option Nat} {i : Nat} {t : Option Nat} : ∀ {n : Nat}, n ≤ i → cnt (fun j => if j = i then t else sn j) n = cnt sn n := by
  intro n
  induction n with
  | zero => intro _; rfl
  | succ n ih =>
    intro h
    rw [cnt, cnt, ih (by omega), if_neg (show ¬ n = i by omega)]
theorem cnt_u {sn : Nat → Option Nat} {i t : Nat} : ∀ {n : Nat}, i < n → sn i = none → cnt (fun j => if j = i then some t else sn j) n + 1 = cnt sn n := by
  intro n
  induction n with
  | zero => intro h; omega
  | succ n ih =>
    intro h hi
    rw [cnt, cnt]
    rcases Nat.lt_or_ge i n with q | q
    · have := ih q hi
      rw [if_neg (show ¬ n = i by omega)]
      omega
    · have e : i = n := by omega
      subst e
      rw [cnt_out (Nat.le_refl _), if_pos rfl, if_pos hi, if_neg (by simp)]
theorem cnt_none : ∀ n, cnt (fun _ => none) n = n := by
  intro n
  induction n with
  | zero => rfl
  | succ n ih => rw [cnt, ih, if_pos rfl]
def SXok (S : Nat → Int32) (sn : Nat → Option Nat) : Prop := ∀ j, j < 384 → S j = match sn j with | none => -4 | some t => nI t
def SMok (S : Nat → Int32) (sn : Nat → Option Nat) : Prop := ∀ j, j < 384 → S j = match sn j with | none => 0 | some t => nI (t + 1)
theorem SXok_u {S : Nat → Int32} {sn : Nat → Option Nat} {i t : Nat} (h : SXok S sn) : SXok (upd S i (nI t)) (fun j => if j = i then some t else sn j) := by
  intro j hj
  by_cases e : j = i
  · subst e; rw [pk_us]; simp only [if_true]
  · rw [pk_un e]; simp only [e, if_false]; exact h j hj
theorem SMok_u {S : Nat → Int32} {sn : Nat → Option Nat} {i t : Nat} (h : SMok S sn) : SMok (upd S i (nI (t + 1))) (fun j => if j = i then some t else sn j) := by
  intro j hj
  by_cases e : j = i
  · subst e; rw [pk_us]; simp only [if_true]
  · rw [pk_un e]; simp only [e, if_false]; exact h j hj
/-- the class's walker -/
def PX (x σ : St) (c w : Nat) (s : Int32) (sn : Nat → Option Nat) : Prop := KX x σ ∧ σ.1 (10, 4, 0) 0 = nI c ∧ σ.1 (10, 4, 0) 1 = s ∧ σ.1 (10, 4, 0) 2 = nI w ∧ SXok (σ.1 (17, 0, 0)) sn
theorem KX_8 {x σ : St} (h : KX x σ) : σ.1 (8, 0, 0) = x.1 (8, 0, 0) := h _ (Or.inl (Or.inr (Or.inr (Or.inr (Or.inr (Or.inr ⟨Or.inr (Or.inl rfl), by decide⟩))))))
theorem KX_4 {x σ : St} (h : KX x σ) : σ.1 (4, 0, 0) = x.1 (4, 0, 0) := h _ (Or.inl (Or.inr (Or.inr (Or.inl rfl))))
theorem x_kindS {x σ : St} {c : Nat} (h : KX x σ) (hc : c < 96) : F_X6_kindAt 0 (nI c) σ = some (fx 0 x c, σ) := by
  have := x_kind (q := 0) (x := σ) (g := fx 0 σ) hc
  rw [px_fx] at this
  rw [this, fx_c hc, fx_c hc, KX_8 h]
theorem x_wayS {x σ : St} {c w : Nat} {s : Int32} {sn : Nat → Option Nat} (h : PX x σ c w s sn) (hs : 0 < s) (hc : c < 96) : F_X6_wayOf 0 4 0 0 0 σ = some (wyB (tsB (x.1 (4, 0, 0)) s) (fx 0 x c) (nI w), σ) := by
  obtain ⟨h1, h2, h3, h4, h5⟩ := h
  rw [← wy_B]
  unfold wy
  rw [← KX_4 h1]
  by_cases z4 : 4 ≤ fx 0 x c
  · simp only [F_X6_wayOf, h2, x_kindS h1 hc, bd_i, z4, ↓reduceIte, h3, hs, h4]
  · by_cases z2 : s < σ.1 (4, 0, 0) 2
    · simp only [F_X6_wayOf, h2, x_kindS h1 hc, bd_i, z4, ↓reduceIte, h3, x_teeth, z2, h4]
    · by_cases z3 : σ.1 (4, 0, 0) 3 < s <;> simp only [F_X6_wayOf, h2, x_kindS h1 hc, bd_i, z4, ↓reduceIte, h3, x_teeth, z2, z3, h4, ft10]
theorem x_kind4S {σ : St} {c : Nat} : F_X6_kindAt c (-4) σ = some (5, σ) := rfl
theorem x_follow {x : St} {s : Int32} (hs : 0 < s) (hg : ∀ c, c < 96 → ∃ k, k < 8 ∧ fx 0 x c = nI k) (kx : Int32 → Int32 → St → Option (Int32 × St)) : ∀ (k t c w fu : Nat) (sn : Nat → Option Nat) (σ : St), t + k = 384 → k < fu → cnt sn 384 = k → (∀ j t1, sn j = some t1 → t1 < t) → wok (fx 0 x) c w → PX x σ c w s sn →
    (∃ q t' c' w' sn' σ', q < 96 ∧ wk (tsB (x.1 (4, 0, 0)) s) (fx 0 x) (k + 1) t c w sn = (some q, t', c', w', sn') ∧ L_X3_follow_24 0 0 fu (nI t) σ kx = some (nI q, σ') ∧ KX x σ') ∨
    (∃ t' c' w' sn' t0 σ', c' < 96 ∧ w' < 4 ∧ t' ≤ 384 ∧ wk (tsB (x.1 (4, 0, 0)) s) (fx 0 x) (k + 1) t c w sn = (none, t', c', w', sn') ∧ sn' (4 * c' + w') = some t0 ∧ (∀ j t1, sn' j = some t1 → t1 < t') ∧ L_X3_follow_24 0 0 fu (nI t) σ kx = kx (nI t') (nI (4 * c' + w')) σ' ∧ KX x σ' ∧ SXok (σ'.1 (17, 0, 0)) sn') := by
  intro k
  induction k with
  | zero =>
    intro t c w fu sn σ hk hf hn hb hw hP
    obtain ⟨f, rfl⟩ : ∃ f, fu = f + 1 := ⟨fu - 1, by omega⟩
    have hP' := id hP
    obtain ⟨h1, h2, h3, h4, h5⟩ := hP
    obtain ⟨hc, hw4, _⟩ := id hw
    have z : ¬ 384 < t := by omega
    have hne := cnt_0 hn (4 * c + w) (by omega)
    have hS := h5 (4 * c + w) (by omega)
    cases hsn : sn (4 * c + w) with
    | none => exact absurd hsn hne
    | some t0 =>
      rw [hsn] at hS
      have hS : σ.1 (17, 0, 0) (4 * c + w) = nI t0 := hS
      have ht0 := hb _ _ hsn
      have ecw : nI (c * 4 + w) = nI (4 * c + w) := by rw [show c * 4 + w = 4 * c + w by omega]
      have n4 : ¬ nI t0 = -4 := by rw [i_nm4 (by omega)]; exact not_false
      right
      refine ⟨t, c, w, sn, t0, σ, hc, hw4, by omega, by rw [wk, if_neg hne], hsn, hb, ?_, h1, h5⟩
      rw [L_X3_follow_24.eq_2]
      simp (disch := omega) only [i_ltl, z, ↓reduceIte, h2, h4, i_ml, nI_add, nam_i, ecw, x_wt, bd_i, ft10, inb_i, ck_i, nI_clamp, hS, n4]
  | succ k ih =>
    intro t c w fu sn σ hk hf hn hb hw hP
    obtain ⟨f, rfl⟩ : ∃ f, fu = f + 1 := ⟨fu - 1, by omega⟩
    have hP' := id hP
    obtain ⟨h1, h2, h3, h4, h5⟩ := hP
    obtain ⟨hc, hw4, _⟩ := id hw
    have z : ¬ 384 < t := by omega
    have hS := h5 (4 * c + w) (by omega)
    have ecw : nI (c * 4 + w) = nI (4 * c + w) := by rw [show c * 4 + w = 4 * c + w by omega]
    cases hsn : sn (4 * c + w) with
    | some t0 =>
      have hne : ¬ sn (4 * c + w) = none := by rw [hsn]; simp
      rw [hsn] at hS
      have hS : σ.1 (17, 0, 0) (4 * c + w) = nI t0 := hS
      have ht0 := hb _ _ hsn
      have n4 : ¬ nI t0 = -4 := by rw [i_nm4 (by omega)]; exact not_false
      right
      refine ⟨t, c, w, sn, t0, σ, hc, hw4, by omega, by rw [wk, if_neg hne], hsn, hb, ?_, h1, h5⟩
      rw [L_X3_follow_24.eq_2]
      simp (disch := omega) only [i_ltl, z, ↓reduceIte, h2, h4, i_ml, nI_add, nam_i, ecw, x_wt, bd_i, ft10, inb_i, ck_i, nI_clamp, hS, n4]
    | none =>
      rw [hsn] at hS
      have hS : σ.1 (17, 0, 0) (4 * c + w) = -4 := hS
      have n17 : nX 17 0 := Or.inr (Or.inr (Or.inr (Or.inl ⟨by omega, by omega⟩)))
      have n10 : nX 10 4 := Or.inr (Or.inr (Or.inr (Or.inr ⟨by omega, by omega⟩)))
      have hP1 : PX x (uI σ (17, 0, 0) (4 * c + w) (nI t)) c w s (fun j => if j = 4 * c + w then some t else sn j) := by
        refine ⟨KX_u n17 h1, ?_, ?_, ?_, ?_⟩
        · rw [rd_t (by omega)]; exact h2
        · rw [rd_t (by omega)]; exact h3
        · rw [rd_t (by omega)]; exact h4
        · rw [rd_e]; exact SXok_u h5
      have hcnt := cnt_u (t := t) (n := 384) (i := 4 * c + w) (by omega) hsn
      have hb1 : ∀ j t1, (if j = 4 * c + w then some t else sn j) = some t1 → t1 < t + 1 := by
        intro j t1 hj
        by_cases e : j = 4 * c + w
        · rw [if_pos e] at hj; cases hj; omega
        · rw [if_neg e] at hj; have := hb _ _ hj; omega
      have hway := x_wayS hP1 hs hc
      have step : L_X3_follow_24 0 0 (f + 1) (nI t) σ kx = (bd (F_X6_stepOn 0 4 0 (wyB (tsB (x.1 (4, 0, 0)) s) (fx 0 x c) (nI w)) (uI σ (17, 0, 0) (4 * c + w) (nI t))) fun _ σ15 => bd (F_X6_kindAt 0 (σ15.1 (10, 4, 0) 0) σ15) fun r18 σ17 => (if r18 = (6 : Int32) then some (σ17.1 (10, 4, 0) 0, σ17) else L_X3_follow_24 0 0 f (nI (t + 1)) σ17 kx)) := by
        rw [L_X3_follow_24.eq_2]
        simp (disch := omega) only [i_ltl, z, ↓reduceIte, h2, h4, i_ml, nI_add, nam_i, ecw, x_wt, bd_i, ft10, inb_i, ck_i, nI_clamp, hS, hway, i_al]
      have ewk : wk (tsB (x.1 (4, 0, 0)) s) (fx 0 x) (k + 1 + 1) t c w sn = (if (stq (tsB (x.1 (4, 0, 0)) s) (fx 0 x) c w).2.2 then (some (stq (tsB (x.1 (4, 0, 0)) s) (fx 0 x) c w).1, t + 1, (stq (tsB (x.1 (4, 0, 0)) s) (fx 0 x) c w).1, (stq (tsB (x.1 (4, 0, 0)) s) (fx 0 x) c w).2.1, fun j => if j = 4 * c + w then some t else sn j) else wk (tsB (x.1 (4, 0, 0)) s) (fx 0 x) (k + 1) (t + 1) (stq (tsB (x.1 (4, 0, 0)) s) (fx 0 x) c w).1 (stq (tsB (x.1 (4, 0, 0)) s) (fx 0 x) c w).2.1 (fun j => if j = 4 * c + w then some t else sn j)) := by
        rw [wk, if_pos hsn]
      rw [step, ewk]
      clear step ewk hway
      generalize hsn1 : (fun j => if j = 4 * c + w then some t else sn j) = sn1 at *
      have hb1' : ∀ j t1, sn1 j = some t1 → t1 < t + 1 := by rw [← hsn1]; exact hb1
      generalize uI σ (17, 0, 0) (4 * c + w) (nI t) = σ1 at *
      obtain ⟨p1, p2, p3, p4, p5⟩ := id hP1
      obtain ⟨j, hj, hje, hcase⟩ := stq_ok (b := tsB (x.1 (4, 0, 0)) s) hg hw
      rw [hje]
      rcases hcase with ⟨z5, i, hi, hie, est⟩ | ⟨q, hq, hnx, hq6, est⟩ | ⟨q, hq, hnx, hq5, hq6, est, hwq⟩
      · have hkk : F_X6_kindAt 0 (nx (nI c) (nI j)) σ1 = some (5, σ1) := by
          rcases nx_in c hc j hj with h | ⟨q, hq, h, hqc⟩
          · rw [h]; rfl
          · rw [h] at z5 ⊢
            rw [knd, if_neg (by rw [i_nm4 (by omega)]; exact not_false), nI_clamp (by omega)] at z5
            rw [x_kindS p1 hq, z5]
        obtain ⟨_, _, k0, q1, q2, q3, q4⟩ := id hw
        have e6 : ¬ nI k0 = 6 := by rw [i_eqr (by omega) (by decide)]; exact q3
        have hP2 : PX x (uI σ1 (10, 4, 0) 2 (nI i)) c i s sn1 := by
          refine ⟨KX_u n10 p1, ?_, ?_, ?_, ?_⟩
          · rw [rd_e, pk_un (by omega)]; exact p2
          · rw [rd_e, pk_un (by omega)]; exact p3
          · rw [rd_e, pk_us]
          · rw [rd_t (by omega)]; exact p5
        have e2 : (bd (F_X6_stepOn 0 4 0 (nI j) σ1) fun _ σ15 => bd (F_X6_kindAt 0 (σ15.1 (10, 4, 0) 0) σ15) fun r18 σ17 => (if r18 = (6 : Int32) then some (σ17.1 (10, 4, 0) 0, σ17) else L_X3_follow_24 0 0 f (nI (t + 1)) σ17 kx)) = L_X3_follow_24 0 0 f (nI (t + 1)) (uI σ1 (10, 4, 0) 2 (nI i)) kx := by
          simp only [F_X6_stepOn, p2, x_next, bd_i, hkk, ↓reduceIte, hie, nam_i]
          rw [hP2.2.1, x_kindS hP2.1 hc, bd_i, q4, if_neg e6]
        rw [e2, est]
        simp only [Bool.false_eq_true, ↓reduceIte]
        exact ih (t + 1) c i f sn1 _ (by omega) (by omega) (by omega) hb1' ⟨hc, hi, k0, q1, q2, q3, q4⟩ hP2
      · have n5 : ¬ fx 0 x q = 5 := by rw [hq6]; decide
        have hP2 : PX x (uI (uI σ1 (10, 4, 0) 0 (nI q)) (10, 4, 0) 2 (nI j)) q j s sn1 := by
          refine ⟨KX_u n10 (KX_u n10 p1), ?_, ?_, ?_, ?_⟩
          · simp (disch := omega) only [rd_e, pk_un, pk_us]
          · simp (disch := omega) only [rd_e, pk_un]; exact p3
          · simp (disch := omega) only [rd_e, pk_us]
          · simp (disch := omega) only [rd_t]; exact p5
        left
        rw [est]
        refine ⟨q, t + 1, q, j, sn1, uI (uI σ1 (10, 4, 0) 0 (nI q)) (10, 4, 0) 2 (nI j), hq, rfl, ?_, hP2.1⟩
        simp only [F_X6_stepOn, p2, x_next, bd_i, hnx, x_kindS p1 hq, n5, ↓reduceIte, nam_i]
        rw [hP2.2.1, x_kindS hP2.1 hq, bd_i, hq6, if_pos rfl, hP2.2.1]
      · have hP2 : PX x (uI (uI σ1 (10, 4, 0) 0 (nI q)) (10, 4, 0) 2 (nI j)) q j s sn1 := by
          refine ⟨KX_u n10 (KX_u n10 p1), ?_, ?_, ?_, ?_⟩
          · simp (disch := omega) only [rd_e, pk_un, pk_us]
          · simp (disch := omega) only [rd_e, pk_un]; exact p3
          · simp (disch := omega) only [rd_e, pk_us]
          · simp (disch := omega) only [rd_t]; exact p5
        have e2 : (bd (F_X6_stepOn 0 4 0 (nI j) σ1) fun _ σ15 => bd (F_X6_kindAt 0 (σ15.1 (10, 4, 0) 0) σ15) fun r18 σ17 => (if r18 = (6 : Int32) then some (σ17.1 (10, 4, 0) 0, σ17) else L_X3_follow_24 0 0 f (nI (t + 1)) σ17 kx)) = L_X3_follow_24 0 0 f (nI (t + 1)) (uI (uI σ1 (10, 4, 0) 0 (nI q)) (10, 4, 0) 2 (nI j)) kx := by
          simp only [F_X6_stepOn, p2, x_next, bd_i, hnx, x_kindS p1 hq, hq5, ↓reduceIte, nam_i]
          rw [hP2.2.1, x_kindS hP2.1 hq, bd_i, if_neg hq6]
        rw [e2, est]
        simp only [Bool.false_eq_true, ↓reduceIte]
        exact ih (t + 1) q j f sn1 _ (by omega) (by omega) (by omega) hb1' hwq hP2
theorem m_along {m : St} {g : Nat → Int32} {s t9 : Int32} (hA : Ag m g) (hg : ∀ c, c < 96 → ∃ k, k < 8 ∧ g c = nI k) : ∀ (k t c w fu : Nat) (sn : Nat → Option Nat) (S : Nat → Int32), t + k = 384 → k + 1 < fu → cnt sn 384 = k → (∀ j t1, sn j = some t1 → t1 < t) → wok g c w → SMok S sn →
    (∃ q t' c' w' sn' S' w9 t9', wk (tsB (m.1 (43, 0, 0)) s) g (k + 1) t c w sn = (some q, t', c', w', sn') ∧ L_X11_along_35 fu (nI t) (po (uR m (48, 0, 0) S) (nI c) s (nI w) 0 t9) = some (nI t', po (uR m (48, 0, 0) S') (nI q) s w9 2 t9')) ∨
    (∃ t' c' w' sn' S', wk (tsB (m.1 (43, 0, 0)) s) g (k + 1) t c w sn = (none, t', c', w', sn') ∧ L_X11_along_35 fu (nI t) (po (uR m (48, 0, 0) S) (nI c) s (nI w) 0 t9) = some (nI t', po (uR m (48, 0, 0) S') (nI c') s (nI w') 0 t9) ∧ SMok S' sn') := by
  intro k
  induction k with
  | zero =>
    intro t c w fu sn S hk hf hn hb hw hS0
    obtain ⟨f, rfl⟩ : ∃ f, fu = f + 1 := ⟨fu - 1, by omega⟩
    obtain ⟨hc, hw4, _⟩ := id hw
    have hne := cnt_0 hn (4 * c + w) (by omega)
    have hS := hS0 (4 * c + w) (by omega)
    cases hsn : sn (4 * c + w) with
    | none => exact absurd hsn hne
    | some t0 =>
      rw [hsn] at hS
      have hS : S (4 * c + w) = nI (t0 + 1) := hS
      have ht0 := hb _ _ hsn
      have n0 : ¬ nI (t0 + 1) = 0 := nI_ne0 (by omega) (by omega)
      right
      refine ⟨t, c, w, sn, S, by rw [wk, if_neg hne], ?_, hS0⟩
      rw [L_X11_along_35.eq_2]
      simp (disch := omega) only [po_18, ↓reduceIte, po_15, po_17, i_lm, nI_add, inb_i, ck_i, nI_clamp, po_t, rr_e, hS, n0]
  | succ k ih =>
    intro t c w fu sn S hk hf hn hb hw hS0
    obtain ⟨f, rfl⟩ : ∃ f, fu = f + 1 := ⟨fu - 1, by omega⟩
    obtain ⟨hc, hw4, k0, q1, q2, q3, q4⟩ := id hw
    have hS := hS0 (4 * c + w) (by omega)
    cases hsn : sn (4 * c + w) with
    | some t0 =>
      have hne : ¬ sn (4 * c + w) = none := by rw [hsn]; simp
      rw [hsn] at hS
      have hS : S (4 * c + w) = nI (t0 + 1) := hS
      have ht0 := hb _ _ hsn
      have n0 : ¬ nI (t0 + 1) = 0 := nI_ne0 (by omega) (by omega)
      right
      refine ⟨t, c, w, sn, S, by rw [wk, if_neg hne], ?_, hS0⟩
      rw [L_X11_along_35.eq_2]
      simp (disch := omega) only [po_18, ↓reduceIte, po_15, po_17, i_lm, nI_add, inb_i, ck_i, nI_clamp, po_t, rr_e, hS, n0]
    | none =>
      rw [hsn] at hS
      have hS : S (4 * c + w) = 0 := hS
      have hcnt := cnt_u (t := t) (n := 384) (i := 4 * c + w) (by omega) hsn
      have hb1 : ∀ j t1, (if j = 4 * c + w then some t else sn j) = some t1 → t1 < t + 1 := by
        intro j t1 hj
        by_cases e : j = 4 * c + w
        · rw [if_pos e] at hj; cases hj; omega
        · rw [if_neg e] at hj; have := hb _ _ hj; omega
      have hS1 := SMok_u (i := 4 * c + w) (t := t) hS0
      have hA1 : Ag (uR m (48, 0, 0) (upd S (4 * c + w) (nI (t + 1)))) g := ⟨fun c hc => by rw [rr_t (by omega)]; exact hA.1 c hc, by rw [rr_t (by omega)]; exact hA.2.1, by rw [rr_t (by omega)]; exact hA.2.2⟩
      have est0 : uI (po (uR m (48, 0, 0) S) (nI c) s (nI w) 0 t9) (48, 0, 0) (4 * c + w) (nI (t + 1)) = po (uR m (48, 0, 0) (upd S (4 * c + w) (nI (t + 1)))) (nI c) s (nI w) 0 t9 := by
        rw [pq_o (by omega), uI_R, uR_R, uR_self]
      have hgo := m_oneGo (m := uR m (48, 0, 0) (upd S (4 * c + w) (nI (t + 1)))) (s := s) (e := 0) (t := nI (t + 1)) (t0 := t9) hA1 hc q1 q4 hw4
      rw [rr_t (by omega), wy_B, ← q4] at hgo
      have step : ∀ σ', F_X11_oneGoes (nI (t + 1)) (po (uR m (48, 0, 0) (upd S (4 * c + w) (nI (t + 1)))) (nI c) s (nI w) 0 t9) = some ((), σ') → L_X11_along_35 (f + 1) (nI t) (po (uR m (48, 0, 0) S) (nI c) s (nI w) 0 t9) = L_X11_along_35 f (nI (t + 1)) σ' := by
        intro σ' hσ
        rw [L_X11_along_35.eq_2]
        simp (disch := omega) only [po_18, ↓reduceIte, po_15, po_17, i_lm, nI_add, inb_i, ck_i, nI_clamp, po_t, rr_e, hS, nam_i, i_al, est0, hσ, bd_i]
      have ewk : wk (tsB (m.1 (43, 0, 0)) s) g (k + 1 + 1) t c w sn = (if (stq (tsB (m.1 (43, 0, 0)) s) g c w).2.2 then (some (stq (tsB (m.1 (43, 0, 0)) s) g c w).1, t + 1, (stq (tsB (m.1 (43, 0, 0)) s) g c w).1, (stq (tsB (m.1 (43, 0, 0)) s) g c w).2.1, fun j => if j = 4 * c + w then some t else sn j) else wk (tsB (m.1 (43, 0, 0)) s) g (k + 1) (t + 1) (stq (tsB (m.1 (43, 0, 0)) s) g c w).1 (stq (tsB (m.1 (43, 0, 0)) s) g c w).2.1 (fun j => if j = 4 * c + w then some t else sn j)) := by
        rw [wk, if_pos hsn]
      rw [step _ hgo, ewk]
      clear step ewk est0 hgo
      generalize hsn1 : (fun j => if j = 4 * c + w then some t else sn j) = sn1 at *
      have hb1' : ∀ j t1, sn1 j = some t1 → t1 < t + 1 := by rw [← hsn1]; exact hb1
      generalize upd S (4 * c + w) (nI (t + 1)) = S1 at *
      obtain ⟨j, hj, hje, hcase⟩ := stq_ok (b := tsB (m.1 (43, 0, 0)) s) hg hw
      rw [hje]
      rcases hcase with ⟨z5, i, hi, hie, est⟩ | ⟨q, hq, hnx, hq6, est⟩ | ⟨q, hq, hnx, hq5, hq6, est, hwq⟩
      · rw [if_pos z5, hie, est]
        simp only [Bool.false_eq_true, ↓reduceIte]
        exact ih (t + 1) c i f sn1 S1 (by omega) (by omega) (by omega) hb1' ⟨hc, hi, k0, q1, q2, q3, q4⟩ hS1
      · have hkn : knd g (nI q) = 6 := by
          rw [knd, if_neg (by rw [i_nm4 (by omega)]; exact not_false), nI_clamp (by omega), hq6]
        obtain ⟨f', rfl⟩ : ∃ f', f = f' + 1 := ⟨f - 1, by omega⟩
        have n2 : ¬ (2 : Int32) = 0 := by decide
        rw [hnx, hkn, if_neg (show ¬ (6 : Int32) = 5 by decide), if_pos (show (6 : Int32) = 6 from rfl), est]
        left
        refine ⟨q, t + 1, q, j, sn1, S1, nI j, nI (t + 1), rfl, ?_⟩
        rw [L_X11_along_35.eq_2, po_18, if_neg n2]
      · have hkn : knd g (nI q) = g q := by
          rw [knd, if_neg (by rw [i_nm4 (by omega)]; exact not_false), nI_clamp (by omega)]
        rw [hnx, hkn, if_neg hq5, if_neg hq6, est]
        simp only [Bool.false_eq_true, ↓reduceIte]
        exact ih (t + 1) q j f sn1 S1 (by omega) (by omega) (by omega) hb1' hwq hS1
