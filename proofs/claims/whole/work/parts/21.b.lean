/-! the law's loop -/
def GL (N : Nat) (xs : Nat → Int32) (n i : Nat) (X : Option (Int32 × St)) : Prop := ∃ σ2, Rel σ2 σ2 ∧ X = L_law N xs n (nI (i + 6)) σ2
theorem GL_ite {N : Nat} {xs : Nat → Int32} {n i : Nat} {p : Prop} [d : Decidable p] {a b : Option (Int32 × St)} (h1 : p → GL N xs n i a) (h2 : ¬ p → GL N xs n i b) : GL N xs n i (if p then a else b) := by
  by_cases h : p
  · rw [if_pos h]; exact h1 h
  · rw [if_neg h]; exact h2 h
theorem lg_self (a : Int64) : lg_cmp a a = 0 := by
  unfold lg_cmp
  have h : ¬ a < a := by rw [Int64.lt_iff_toInt_lt]; omega
  simp [h]
theorem law_end {N i : Nat} (hN : N ≤ 3072) (hi : i ≤ 4000) : (Int32.ofNat N - 6 < nI i) = (N < i + 6) := by
  apply propext
  have e : Int32.ofNat N = nI N := rfl
  rw [e]
  rcases Nat.lt_or_ge N 6 with q | q
  · have a1 := pk_sneg (a := N) (b := 6) (by omega) q
    have a2 : nI N - 6 < nI i := by
      have p := nI_pos' (n := i) (by omega)
      have a1' : nI N - 6 < 0 := a1
      rw [Int32.lt_iff_toInt_lt] at a1' ⊢
      rw [Int32.le_iff_toInt_le] at p
      omega
    exact ⟨fun _ => by omega, fun _ => a2⟩
  · have a1 : nI N - 6 = nI (N - 6) := pk_sub (b := 6) q
    rw [a1, i_lt (by omega) (by omega)]
    omega
set_option maxHeartbeats 4000000 in
theorem law_step {N : Nat} {xs : Nat → Int32} (hN : N ≤ 3072) {i : Nat} (hi : i + 6 ≤ N) (n : Nat) {σ : St} (hr : Rel σ σ) : GL N xs n i (L_law N xs (n + 1) (nI i) σ) := by
  have c1 : inb (nI i + 1) N = true := by rw [i_al]; exact inb_i (by omega) (by omega)
  have c2 : inb (nI i + 2) N = true := by rw [i_al]; exact inb_i (by omega) (by omega)
  have c3 : inb (nI i + 3) N = true := by rw [i_al]; exact inb_i (by omega) (by omega)
  have c4 : inb (nI i + 4) N = true := by rw [i_al]; exact inb_i (by omega) (by omega)
  have c5 : inb (nI i + 5) N = true := by rw [i_al]; exact inb_i (by omega) (by omega)
  have d6 : nI i + 6 = nI (i + 6) := i_al 6 i
  rw [L_law.eq_2, if_neg (by rw [law_end hN (by omega)]; omega), inb_i (by omega) (by omega), ck_i]
  generalize (nI i + 1).toNatClampNeg = p1 at *
  generalize (nI i + 2).toNatClampNeg = p2 at *
  generalize (nI i + 3).toNatClampNeg = p3 at *
  generalize (nI i + 4).toNatClampNeg = p4 at *
  generalize (nI i + 5).toNatClampNeg = p5 at *
  refine GL_ite (fun z => ?_) (fun z => ?_)
  · clear z
    obtain ⟨r, σ1, σ2, e1, e2, hR⟩ := Sim_one (s_feed (((xs p1).toInt64 <<< ((32 : Int32).toInt64 &&& 63)) ||| ((xs p2).toInt64 &&& (4294967295 : Int64)))) hr
    simp only [c1, c2, ck_i, e1, e2, bd_i, ↓reduceIte, nam_i, d6]
    exact ⟨σ2, hR, rfl⟩
  refine GL_ite (fun z => ?_) (fun z => ?_)
  · clear z
    obtain ⟨r, σ1, σ2, e1, e2, hR⟩ := Sim_one (s_end (xs p1)) hr
    simp only [c1, ck_i, e1, e2, bd_i, ↓reduceIte, nam_i, d6]
    exact ⟨σ2, hR, rfl⟩
  refine GL_ite (fun z => ?_) (fun z => ?_)
  · clear z
    obtain ⟨r, σ1, σ2, e1, e2, hR⟩ := Sim_one (s_text) hr
    simp only [e1, e2, bd_i, ↓reduceIte, nam_i, d6]
    exact ⟨σ2, hR, rfl⟩
  refine GL_ite (fun z => ?_) (fun z => ?_)
  · clear z
    obtain ⟨r, σ1, σ2, e1, e2, hR⟩ := Sim_one (s_fault) hr
    simp only [e1, e2, bd_i, ↓reduceIte, nam_i, d6]
    exact ⟨σ2, hR, rfl⟩
  refine GL_ite (fun z => ?_) (fun z => ?_)
  · clear z
    obtain ⟨r, σ1, σ2, e1, e2, hR⟩ := Sim_one (s_rule (xs p1)) hr
    simp only [c1, ck_i, e1, e2, bd_i, ↓reduceIte, nam_i, d6]
    exact ⟨σ2, hR, rfl⟩
  refine GL_ite (fun z => ?_) (fun z => ?_)
  · clear z
    obtain ⟨r, σ1, σ2, e1, e2, hR⟩ := Sim_one (s_cell (xs p1)) hr
    simp only [c1, ck_i, e1, e2, bd_i, ↓reduceIte, nam_i, d6]
    exact ⟨σ2, hR, rfl⟩
  refine GL_ite (fun z => ?_) (fun z => ?_)
  · clear z
    obtain ⟨r, σ1, σ2, e1, e2, hR⟩ := Sim_one (s_put (xs p1) (xs p2)) hr
    simp only [c1, c2, ck_i, e1, e2, bd_i, ↓reduceIte, nam_i, d6]
    exact ⟨σ2, hR, rfl⟩
  refine GL_ite (fun z => ?_) (fun z => ?_)
  · clear z
    obtain ⟨r, σ1, σ2, e1, e2, hR⟩ := Sim_one (s_heat (xs p1)) hr
    simp only [c1, ck_i, e1, e2, bd_i, ↓reduceIte, nam_i, d6]
    exact ⟨σ2, hR, rfl⟩
  refine GL_ite (fun z => ?_) (fun z => ?_)
  · clear z
    obtain ⟨r, σ1, σ2, e1, e2, hR⟩ := Sim_one (s_drop (xs p1) (xs p2) (xs p3)) hr
    simp only [c1, c2, c3, ck_i, e1, e2, bd_i, ↓reduceIte, nam_i, d6]
    exact ⟨σ2, hR, rfl⟩
  refine GL_ite (fun z => ?_) (fun z => ?_)
  · clear z
    obtain ⟨r, σ1, σ2, e1, e2, hR⟩ := Sim_one (s_go (xs p1)) hr
    simp only [c1, ck_i, e1, e2, bd_i, ↓reduceIte, nam_i, d6]
    exact ⟨σ2, hR, rfl⟩
  refine GL_ite (fun z => ?_) (fun z => ?_)
  · clear z
    obtain ⟨r, σ1, σ2, e1, e2, hR⟩ := Sim_one (s_seed (xs p1)) hr
    simp only [c1, ck_i, e1, e2, bd_i, ↓reduceIte, nam_i, d6]
    exact ⟨σ2, hR, rfl⟩
  refine GL_ite (fun z => ?_) (fun z => ?_)
  · clear z
    obtain ⟨r, σ1, σ2, e1, e2, hR⟩ := Sim_one (s_of (xs p1) (xs p2)) hr
    simp only [c1, c2, ck_i, e1, e2, bd_i, ↓reduceIte, nam_i, d6]
    exact ⟨σ2, hR, rfl⟩
  refine GL_ite (fun z => ?_) (fun z => ?_)
  · clear z
    obtain ⟨r, σ1, σ2, e1, e2, hR⟩ := Sim_one (s_at (xs p1)) hr
    simp only [c1, ck_i, e1, e2, bd_i, ↓reduceIte, nam_i, d6]
    exact ⟨σ2, hR, rfl⟩
  refine GL_ite (fun z => ?_) (fun z => ?_)
  · clear z
    obtain ⟨r, σ1, σ2, e1, e2, hR⟩ := Sim_one (s_now (xs p1)) hr
    simp only [c1, ck_i, e1, e2, bd_i, ↓reduceIte, nam_i, d6]
    exact ⟨σ2, hR, rfl⟩
  refine GL_ite (fun z => ?_) (fun z => ?_)
  · clear z
    obtain ⟨r, σ1, σ2, e1, e2, hR⟩ := Sim_one (s_points (xs p1)) hr
    simp only [c1, ck_i, e1, e2, bd_i, ↓reduceIte, nam_i, d6]
    exact ⟨σ2, hR, rfl⟩
  refine GL_ite (fun z => ?_) (fun z => ?_)
  · clear z
    obtain ⟨r, σ1, σ2, e1, e2, hR⟩ := Sim_one (s_keep (xs p1)) hr
    simp only [c1, ck_i, e1, e2, bd_i, ↓reduceIte, nam_i, d6]
    exact ⟨σ2, hR, rfl⟩
  refine GL_ite (fun z => ?_) (fun z => ?_)
  · clear z
    obtain ⟨r, σ1, σ2, e1, e2, hR⟩ := Sim_one (s_back (xs p1)) hr
    simp only [c1, ck_i, e1, e2, bd_i, ↓reduceIte, nam_i, d6]
    exact ⟨σ2, hR, rfl⟩
  refine GL_ite (fun z => ?_) (fun z => ?_)
  · clear z
    obtain ⟨r, σ1, σ2, e1, e2, hR⟩ := Sim_one (s_alone (xs p1) (xs p2) (xs p3) (xs p4) (xs p5)) hr
    simp only [c1, c2, c3, c4, c5, ck_i, e1, e2, bd_i, ↓reduceIte, nam_i, d6]
    exact ⟨σ2, hR, rfl⟩
  refine GL_ite (fun z => ?_) (fun z => ?_)
  · clear z
    obtain ⟨r, σ1, σ2, e1, e2, hR⟩ := Sim_one (s_reach (xs p1) (xs p2) (xs p3) (xs p4)) hr
    simp only [c1, c2, c3, c4, ck_i, e1, e2, bd_i, ↓reduceIte, nam_i, d6]
    exact ⟨σ2, hR, rfl⟩
  refine GL_ite (fun z => ?_) (fun z => ?_)
  · clear z
    obtain ⟨r, σ1, σ2, e1, e2, hR⟩ := Sim_one (s_ring (xs p1) (xs p2) (xs p3) (xs p4)) hr
    simp only [c1, c2, c3, c4, ck_i, e1, e2, bd_i, ↓reduceIte, nam_i, d6]
    exact ⟨σ2, hR, rfl⟩
  refine GL_ite (fun z => ?_) (fun z => ?_)
  · clear z
    obtain ⟨r, σ1, σ2, e1, e2, hR⟩ := Sim_one (s_falls (xs p1) (xs p2) (xs p3)) hr
    simp only [c1, c2, c3, ck_i, e1, e2, bd_i, lg_self r, ↓reduceIte, nam_i, d6]
    exact ⟨σ2, hR, rfl⟩
  refine GL_ite (fun z => ?_) (fun z => ?_)
  · clear z
    obtain ⟨r, σ1, σ2, e1, e2, hR⟩ := Sim_one (s_mend (xs p1) (xs p2) (xs p3) (xs p4) (xs p5)) hr
    simp only [c1, c2, c3, c4, c5, ck_i, e1, e2, bd_i, ↓reduceIte, nam_i, d6]
    exact ⟨σ2, hR, rfl⟩
  refine GL_ite (fun z => ?_) (fun z => ?_)
  · clear z
    by_cases h0 : xs p3 = 0
    · obtain ⟨r, σ1, σ2, e1, e2, hR⟩ := Sim_one (s_life (xs p1) (xs p2) 0) hr
      simp only [c1, c2, c3, ck_i, nam_i, h0, ↓reduceIte, e1, e2, bd_i, d6]
      exact ⟨σ2, hR, rfl⟩
    · obtain ⟨r, σ1, σ2, e1, e2, hR⟩ := Sim_one (s_life (xs p1) (xs p2) 1) hr
      simp only [c1, c2, c3, ck_i, nam_i, h0, ↓reduceIte, e1, e2, bd_i, d6]
      exact ⟨σ2, hR, rfl⟩
  refine GL_ite (fun z => ?_) (fun z => ?_)
  · clear z
    by_cases h0 : xs p2 = 0
    · obtain ⟨r, σ1, σ2, e1, e2, hR⟩ := Sim_one (s_hump (xs p1) 0 (xs p3)) hr
      simp only [c1, c2, c3, ck_i, nam_i, h0, ↓reduceIte, e1, e2, bd_i, d6]
      exact ⟨σ2, hR, rfl⟩
    · obtain ⟨r, σ1, σ2, e1, e2, hR⟩ := Sim_one (s_hump (xs p1) 1 (xs p3)) hr
      simp only [c1, c2, c3, ck_i, nam_i, h0, ↓reduceIte, e1, e2, bd_i, d6]
      exact ⟨σ2, hR, rfl⟩
  refine GL_ite (fun z => ?_) (fun z => ?_)
  · clear z
    by_cases h0 : xs p3 = 0
    · obtain ⟨r, σ1, σ2, e1, e2, hR⟩ := Sim_one (s_hot (xs p1) (xs p2) 0 (xs p4)) hr
      simp only [c1, c2, c3, c4, ck_i, nam_i, h0, ↓reduceIte, e1, e2, bd_i, d6]
      exact ⟨σ2, hR, rfl⟩
    · obtain ⟨r, σ1, σ2, e1, e2, hR⟩ := Sim_one (s_hot (xs p1) (xs p2) 1 (xs p4)) hr
      simp only [c1, c2, c3, c4, ck_i, nam_i, h0, ↓reduceIte, e1, e2, bd_i, d6]
      exact ⟨σ2, hR, rfl⟩
  refine GL_ite (fun z => ?_) (fun z => ?_)
  · clear z
    obtain ⟨r, σ1, σ2, e1, e2, hR⟩ := Sim_one (s_odds (xs p1) (xs p2) (xs p3) (xs p4)) hr
    simp only [c1, c2, c3, c4, ck_i, e1, e2, bd_i, lg_self r, ↓reduceIte, nam_i, d6]
    exact ⟨σ2, hR, rfl⟩
  refine GL_ite (fun z => ?_) (fun z => ?_)
  · clear z
    obtain ⟨r, σ1, σ2, e1, e2, hR⟩ := Sim_one (s_cools (xs p1) (xs p2) (xs p3)) hr
    simp only [c1, c2, c3, ck_i, e1, e2, bd_i, ↓reduceIte, nam_i, d6]
    exact ⟨σ2, hR, rfl⟩
  refine GL_ite (fun z => ?_) (fun z => ?_)
  · clear z
    by_cases h0 : xs p3 = 0
    · obtain ⟨r, σ1, σ2, e1, e2, hR⟩ := Sim_one (s_saw (xs p1) (xs p2) 0 (xs p4) (Or.inl rfl)) hr
      simp only [c1, c2, c3, c4, ck_i, nam_i, h0, ↓reduceIte, e1, e2, bd_i, d6]
      exact ⟨σ2, hR, rfl⟩
    · obtain ⟨r, σ1, σ2, e1, e2, hR⟩ := Sim_one (s_saw (xs p1) (xs p2) 1 (xs p4) (Or.inr rfl)) hr
      simp only [c1, c2, c3, c4, ck_i, nam_i, h0, ↓reduceIte, e1, e2, bd_i, d6]
      exact ⟨σ2, hR, rfl⟩
  refine GL_ite (fun z => ?_) (fun z => ?_)
  · clear z
    obtain ⟨r, σ1, σ2, e1, e2, hR⟩ := Sim_one (s_forget) hr
    simp only [e1, e2, bd_i, ↓reduceIte, nam_i, d6]
    exact ⟨σ2, hR, rfl⟩
  refine GL_ite (fun z => ?_) (fun z => ?_)
  · clear z
    obtain ⟨r, σ1, σ2, e1, e2, hR⟩ := Sim_one (s_fits (xs p1)) hr
    simp only [c1, ck_i, e1, e2, bd_i, ↓reduceIte, nam_i, d6]
    exact ⟨σ2, hR, rfl⟩
  refine GL_ite (fun z => ?_) (fun z => ?_)
  · clear z
    obtain ⟨r, σ1, σ2, e1, e2, hR⟩ := Sim_one (s_right) hr
    simp only [e1, e2, bd_i, ↓reduceIte, nam_i, d6]
    exact ⟨σ2, hR, rfl⟩
  refine GL_ite (fun z => ?_) (fun z => ?_)
  · clear z
    obtain ⟨r, σ1, σ2, e1, e2, hR⟩ := Sim_one (s_sheet (xs p1) (xs p2) (xs p3)) hr
    simp only [c1, c2, c3, ck_i, e1, e2, bd_i, ↓reduceIte, nam_i, d6]
    exact ⟨σ2, hR, rfl⟩
  refine GL_ite (fun z => ?_) (fun z => ?_)
  · clear z
    obtain ⟨r, σ1, σ2, e1, e2, hR⟩ := Sim_one (s_lay (xs p1) (xs p2) (xs p3)) hr
    simp only [c1, c2, c3, ck_i, e1, e2, bd_i, ↓reduceIte, nam_i, d6]
    exact ⟨σ2, hR, rfl⟩
  refine GL_ite (fun z => ?_) (fun z => ?_)
  · clear z
    obtain ⟨r, σ1, σ2, e1, e2, hR⟩ := Sim_one (s_read (xs p1) (xs p2) (xs p3) (xs p4)) hr
    simp only [c1, c2, c3, c4, ck_i, e1, e2, bd_i, ↓reduceIte, nam_i, d6]
    exact ⟨σ2, hR, rfl⟩
  refine GL_ite (fun z => ?_) (fun z => ?_)
  · clear z
    obtain ⟨r, σ1, σ2, e1, e2, hR⟩ := Sim_one (s_torn) hr
    simp only [e1, e2, bd_i, ↓reduceIte, nam_i, d6]
    exact ⟨σ2, hR, rfl⟩
  refine GL_ite (fun z => ?_) (fun z => ?_)
  · clear z
    obtain ⟨r, σ1, σ2, e1, e2, hR⟩ := Sim_one (s_count (xs p1)) hr
    simp only [c1, ck_i, e1, e2, bd_i, ↓reduceIte, nam_i, d6]
    exact ⟨σ2, hR, rfl⟩
  rw [nam_i, d6]
  exact ⟨σ, hr, rfl⟩
theorem law_loop {N : Nat} {xs : Nat → Int32} (hN : N ≤ 3072) : ∀ (k i fu : Nat) (σ : St), N < i + 6 * (k + 1) → i ≤ N + 6 → k < fu → Rel σ σ → ∃ σ', L_law N xs fu (nI i) σ = some ((1 : Int32), σ') := by
  intro k
  induction k with
  | zero =>
    intro i fu σ h1 h2 hf hr
    obtain ⟨f, rfl⟩ : ∃ f, fu = f + 1 := ⟨fu - 1, by omega⟩
    refine ⟨σ, ?_⟩
    rw [L_law.eq_2, if_pos (by rw [law_end hN (by omega)]; omega)]
  | succ k ih =>
    intro i fu σ h1 h2 hf hr
    obtain ⟨f, rfl⟩ : ∃ f, fu = f + 1 := ⟨fu - 1, by omega⟩
    by_cases z : N < i + 6
    · refine ⟨σ, ?_⟩
      rw [L_law.eq_2, if_pos (by rw [law_end hN (by omega)]; exact z)]
    · obtain ⟨σ2, hR, e⟩ := law_step (xs := xs) hN (show i + 6 ≤ N by omega) f hr
      obtain ⟨σ', e'⟩ := ih (i + 6) f σ2 (by omega) (by omega) (by omega) hR
      exact ⟨σ', e.trans e'⟩
theorem pure_ok : Pure_ok := by
  obtain ⟨σ1, σ2, e1, e2, hR⟩ := first_ok
  refine ⟨σ1, σ2, e1, e2, fun N xs hN => ?_⟩
  obtain ⟨σ', e⟩ := law_loop (xs := xs) hN 512 0 513 σ2 (by omega) (by omega) (by omega) hR
  exact ⟨513, σ', e⟩
