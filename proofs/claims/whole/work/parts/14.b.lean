/-! a drop's tick keeps what holds of a scene -/
theorem upd_upd {f : Nat → Int32} {k : Nat} {u v : Int32} : upd (upd f k u) k v = upd f k v := by
  funext j
  by_cases e : j = k
  · subst e; rw [pk_us, pk_us]
  · rw [pk_un e, pk_un e, pk_un e]
theorem tz_big {n d : Nat} {g : Nat → Int32} (hG : Gd n g) (hd : d < n) : tz g d ≤ 720 := by
  have := sm_part (f := tz g) hd
  have h7 := hG.2.2.2.2.2.2
  have h1 := hG.1
  omega
theorem Gd_lose {n d s z : Nat} {g : Nat → Int32} (hG : Gd n g) (hd : d < n) (h0 : g (132 + d) = 0) (hs : g (108 + d) = nI s) (hs2 : s < 2 ^ 31) (hz : z ≤ s) : Gd n (lose d (nI z) g) := by
  have h12 := hG.1
  obtain ⟨hok, hl⟩ := hG.2.2.2.2.2.1 d hd h0
  refine (Gd_tr (g' := lose d (nI z) g) hG hd (fun c hc => lose_at (by omega) (by omega) (by omega) (by omega)) (lose_at (by omega) (by omega) (by omega) (by omega)) (lose_at (by omega) (by omega) (by omega) (by omega)) (lose_at (by omega) (by omega) (by omega) (by omega)) (fun e he hne => ⟨lose_at (by omega) (by omega) (by omega) (by omega), lose_at (by omega) (by omega) (by omega) (by omega), lose_at (by omega) (by omega) (by omega) (by omega), lose_at (by omega) (by omega) (by omega) (by omega)⟩) ?_).1
  intro hg
  obtain ⟨c, s', w, k, a1, a2, a3, a4, a5, a6, a7, a8, a9⟩ := hok
  have e1 : nI s - nI z = nI (s - z) := pk_sub hz
  by_cases hsz : s - z = 0
  · exfalso
    unfold lose at hg
    rw [hs, e1, if_pos (by rw [hsz]; rfl), end_gone] at hg
    exact absurd hg (by decide)
  · have e2 : ¬ nI (s - z) = 0 := nI_ne0 (by omega) (by omega)
    have e3 : lose d (nI z) g (108 + d) = nI (s - z) := by
      unfold lose
      rw [hs, e1, if_neg e2, pk_un (by omega), pk_us]
    refine ⟨⟨c, s - z, w, k, a1, ?_, by omega, by omega, e3, a6, ?_, ?_, a9⟩, ?_, h0, ?_⟩
    · rw [lose_at (by omega) (by omega) (by omega) (by omega), a2]
    · rw [lose_at (by omega) (by omega) (by omega) (by omega), a7]
    · rw [lose_at (by omega) (by omega) (by omega) (by omega), a8]
    · intro e he hne
      rw [lose_at (by omega) (by omega) (by omega) (by omega), lose_at (by omega) (by omega) (by omega) (by omega), lose_at (by omega) (by omega) (by omega) (by omega)]
      exact hl e he hne
    · rw [e3, hs, nI_clamp (by omega), nI_clamp hs2]; omega
theorem Gd_end {n d : Nat} {how : Int32} {g g' : Nat → Int32} (hG : Gd n g) (hd : d < n) (hh : how ≠ 0) (hc : ∀ c, c < 96 → g' c = g c) (h176 : g' 176 = g 176) (h169 : g' 169 = g 169) (h170 : g' 170 = g 170) (ho : ∀ e, e < n → e ≠ d → g' (132 + e) = g (132 + e) ∧ g' (96 + e) = g (96 + e) ∧ g' (108 + e) = g (108 + e) ∧ g' (120 + e) = g (120 + e)) : Gd n (endD d how g') ∧ sm (tz (endD d how g')) n + tz g d = sm (tz g) n := by
  have h12 := hG.1
  have hz : tz (endD d how g') d = 0 := by rw [tz, end_gone, if_neg hh]
  have := Gd_tr (g' := endD d how g') hG hd (fun c hcc => by rw [end_at (by omega) (by omega), hc c hcc]) (by rw [end_at (by omega) (by omega), h176]) (by rw [end_at (by omega) (by omega), h169]) (by rw [end_at (by omega) (by omega), h170]) (fun e he hne => by
    have := ho e he hne
    rw [end_at (by omega) (by omega), end_at (by omega) (by omega), end_at (by omega) (by omega), end_at (by omega) (by omega)]
    exact this) (fun h => absurd (by rw [← h, end_gone]) hh)
  exact ⟨this.1, by omega⟩
theorem Gd_grow {n e s t : Nat} {g : Nat → Int32} (hG : Gd n g) (he : e < n) (h0 : g (132 + e) = 0) (hs : g (108 + e) = nI s) (hs2 : s < 2 ^ 30) (ht : sm (tz g) n + t ≤ 60 * n) : Gd n (upd g (108 + e) (nI (s + t))) := by
  obtain ⟨h1, h2, h3, h4, h5, h6, h7⟩ := hG
  have hsum : sm (tz (upd g (108 + e) (nI (s + t)))) n + tz g e = sm (tz g) n + tz (upd g (108 + e) (nI (s + t))) e := sm_ch he (fun f hf hne => by rw [tz, tz, pk_un (by omega), pk_un (by omega)])
  have z1 : tz g e = s := by rw [tz, if_pos h0, hs, nI_clamp (by omega)]
  have z2 : tz (upd g (108 + e) (nI (s + t))) e = s + t := by rw [tz, pk_un (by omega), if_pos h0, pk_us, nI_clamp (by omega)]
  refine ⟨h1, by rw [pk_un (by omega), h2], fun c hc => by rw [pk_un (by omega)]; exact h3 c hc, by rw [pk_un (by omega)]; exact h4, by rw [pk_un (by omega)]; exact h5, ?_, by omega⟩
  intro d hd hg
  rw [pk_un (by omega)] at hg
  obtain ⟨⟨c, s', w, k, a1, a2, a3, a4, a5, a6, a7, a8, a9⟩, b⟩ := h6 d hd hg
  have hl : lone n d (upd g (108 + e) (nI (s + t))) := by
    intro f hf hne hgf
    rw [pk_un (by omega)] at hgf
    rw [pk_un (by omega), pk_un (by omega)]
    exact b f hf hne hgf
  by_cases hde : d = e
  · subst hde
    have : s = s' := by
      rw [hs] at a5
      rw [i_eq (by omega) a4] at a5
      exact a5
    refine ⟨⟨c, s + t, w, k, a1, ?_, by omega, by omega, pk_us, a6, ?_, ?_, a9⟩, hl⟩
    · rw [pk_un (by omega), a2]
    · rw [pk_un (by omega), a7]
    · rw [pk_un (by omega), a8]
  · refine ⟨⟨c, s', w, k, a1, ?_, a3, a4, ?_, a6, ?_, ?_, a9⟩, hl⟩
    · rw [pk_un (by omega), a2]
    · rw [pk_un (by omega), a5]
    · rw [pk_un (by omega), a7]
    · rw [pk_un (by omega), a8]
theorem Gd_goOn {R : Nat → Int32} {roll : Int32} {n d : Nat} {g : Nat → Int32} (hG : Gd n g) (hd : d < n) (h0 : g (132 + d) = 0) : Gd n (goOn R roll n d g) := by
  have h12 := hG.1
  obtain ⟨hok, hl⟩ := hG.2.2.2.2.2.1 d hd h0
  obtain ⟨c, s, w, k, a1, a2, a3, a4, a5, a6, a7, a8, a9, a10, a11⟩ := hok
  have hcc : (nI c).toNatClampNeg = c := nI_clamp (by omega)
  unfold goOn
  rw [a2, hcc, nam_i, a8, a7]
  obtain ⟨j, hj, hje⟩ := wayv_in (R := R) (roll := roll) (s := g (108 + d)) (sd := g 175) a9 a6
  rw [hje]
  generalize (wayv R roll (nI k) (g (108 + d)) (nI w) (g 175)).2 = sd
  unfold stepG
  by_cases h5 : knd g (nx (nI c) (nI j)) = 5
  · rw [if_pos h5]
    refine (Gd_tr (g' := upd (upd g 175 sd) (120 + d) ((nI j + 1) &&& 3)) hG hd (fun c hc => by rw [pk_un (by omega), pk_un (by omega)]) (by rw [pk_un (by omega), pk_un (by omega)]) (by rw [pk_un (by omega), pk_un (by omega)]) (by rw [pk_un (by omega), pk_un (by omega)]) (fun e he hne => ⟨by rw [pk_un (by omega), pk_un (by omega)], by rw [pk_un (by omega), pk_un (by omega)], by rw [pk_un (by omega), pk_un (by omega)], by rw [pk_un (by omega), pk_un (by omega)]⟩) (fun _ => ?_)).1
    obtain ⟨w', hw', hwe⟩ := pk_andE (nI j + 1) (m := (3 : Int32)) 2 (by decide)
    refine ⟨⟨c, s, w', k, a1, ?_, a3, a4, ?_, hw', ?_, ?_, a9, a10, a11⟩, ?_, h0, ?_⟩
    · rw [pk_un (by omega), pk_un (by omega), a2]
    · rw [pk_un (by omega), pk_un (by omega), a5]
    · rw [pk_us, hwe]
    · rw [pk_un (by omega), pk_un (by omega), a8]
    · intro e he hne
      rw [pk_un (by omega), pk_un (by omega), pk_un (by omega), pk_un (by omega), pk_un (by omega), pk_un (by omega)]
      exact hl e he hne
    · rw [pk_un (by omega), pk_un (by omega)]
      exact Nat.le_refl _
  · rw [if_neg h5]
    rcases nx_in c a1 j hj with q | ⟨t, ht, q, htc⟩
    · exact absurd (by rw [q]; rfl) h5
    · have a : ¬ nI t = -4 := by rw [i_nm4 (by omega)]; exact not_false
      have hkt : knd g (nI t) = g t := by rw [knd, if_neg a, nI_clamp (by omega)]
      rw [q, hkt] at h5 ⊢
      by_cases h6 : g t = 6
      · rw [if_pos h6]
        refine (Gd_end (g' := upd (upd (upd (upd g 175 sd) (96 + d) (nI t)) (120 + d) (nI j)) 172 (g 172 + g (108 + d))) hG hd (by decide) (fun c hc => ?_) ?_ ?_ ?_ (fun e he hne => ⟨?_, ?_, ?_, ?_⟩)).1 <;> rw [pk_un (by omega), pk_un (by omega), pk_un (by omega), pk_un (by omega)]
      · rw [if_neg h6]
        cases hfe : fnd (pC g (nI t) (nI d)) n 0 with
        | none =>
          unfold joinG
          refine (Gd_tr (g' := upd (upd (upd g 175 sd) (96 + d) (nI t)) (120 + d) (nI j)) hG hd (fun c hc => ?_) ?_ ?_ ?_ (fun e he hne => ⟨?_, ?_, ?_, ?_⟩) (fun _ => ?_)).1
          iterate 8 rw [pk_un (by omega), pk_un (by omega), pk_un (by omega)]
          obtain ⟨kt, hkt8, hgt⟩ := hG.2.2.1 t ht
          have n5 : kt ≠ 5 := fun z => h5 (by rw [hgt, z]; rfl)
          have n6 : kt ≠ 6 := fun z => h6 (by rw [hgt, z]; rfl)
          refine ⟨⟨t, s, j, kt, ht, ?_, a3, a4, ?_, hj, pk_us, ?_, hkt8, n5, n6⟩, ?_, h0, ?_⟩
          · rw [pk_un (by omega), pk_us]
          · rw [pk_un (by omega), pk_un (by omega), pk_un (by omega), a5]
          · rw [pk_un (by omega), pk_un (by omega), pk_un (by omega), hgt]
          · intro e he hne
            rw [pk_un (by omega), pk_un (by omega), pk_un (by omega), pk_un (by omega), pk_un (by omega), pk_un (by omega), pk_un (by omega), pk_us]
            intro hg hce
            have := fnd_none hfe e (by omega) (by omega)
            have hne' : ¬ nI e = nI d := by rw [i_eq (by omega) (by omega)]; exact hne
            simp only [pC, hne', hg, hce, decide_true, decide_false, Bool.not_false, Bool.and_self, Bool.true_eq_false] at this
          · rw [pk_un (by omega), pk_un (by omega), pk_un (by omega)]
            exact Nat.le_refl _
        | some e =>
          have he := fnd_some hfe
          have hen : e < n := by omega
          have hp := he.2.2
          simp only [pC, Bool.and_eq_true, decide_eq_true_eq, Bool.not_eq_true', decide_eq_false_iff_not] at hp
          have hne : e ≠ d := fun z => hp.1 (by rw [z])
          obtain ⟨⟨c', s', w', k', b1, b2, b3, b4, b5, b6⟩, _⟩ := hG.2.2.2.2.2.1 e hen hp.2.1
          have tzd : tz g d = s := by rw [tz, if_pos h0, a5, nI_clamp a4]
          have tze : tz g e = s' := by rw [tz, if_pos hp.2.1, b5, nI_clamp b4]
          have hd7 := tz_big hG hd
          have he7 := tz_big hG hen
          unfold joinG
          show Gd n (endD d 4 (upd (upd (upd (upd (upd g 175 sd) (96 + d) (nI t)) (120 + d) (nI j)) (108 + e) (g (108 + e) + g (108 + d))) (156 + d) (nI e)))
          generalize hgb : endD d 4 (upd (upd (upd (upd (upd g 175 sd) (96 + d) (nI t)) (120 + d) (nI j)) (108 + e) (g (108 + e) + g (108 + d))) (156 + d) (nI e)) = gb
          have hv : gb (108 + e) = nI (s' + s) := by
            rw [← hgb, end_at (by omega) (by omega), pk_un (by omega), pk_us, a5, b5, nI_add]
          have hmid := Gd_end (g' := upd (upd (upd (upd (upd (upd g 175 sd) (96 + d) (nI t)) (120 + d) (nI j)) (108 + e) (g (108 + e) + g (108 + d))) (156 + d) (nI e)) (108 + e) (g (108 + e))) (how := 4) hG hd (by decide) (fun c hc => by simp (disch := omega) only [pk_un]) (by simp (disch := omega) only [pk_un]) (by simp (disch := omega) only [pk_un]) (by simp (disch := omega) only [pk_un]) (fun f hf hfd => by
            refine ⟨by simp (disch := omega) only [pk_un], by simp (disch := omega) only [pk_un], ?_, by simp (disch := omega) only [pk_un]⟩
            by_cases z : f = e
            · subst z; rw [pk_us]
            · simp (disch := omega) only [pk_un])
          have hgm : endD d 4 (upd (upd (upd (upd (upd (upd g 175 sd) (96 + d) (nI t)) (120 + d) (nI j)) (108 + e) (g (108 + e) + g (108 + d))) (156 + d) (nI e)) (108 + e) (g (108 + e))) = upd gb (108 + e) (g (108 + e)) := by
            rw [← hgb]
            funext i
            by_cases z : i = 108 + e
            · subst z
              rw [pk_us, end_at (by omega) (by omega), pk_us]
            · rw [pk_un z]
              unfold endD
              by_cases z2 : i = 144 + d
              · subst z2
                rw [pk_us, pk_us, pk_un (by omega)]
              · rw [pk_un z2, pk_un z2]
                by_cases z3 : i = 132 + d
                · subst z3; rw [pk_us, pk_us]
                · rw [pk_un z3, pk_un z3, pk_un z]
          rw [hgm] at hmid
          have hgr := Gd_grow (s := s') (t := s) hmid.1 hen (by rw [pk_un (by omega), ← hgb, end_at (by omega) (by omega)]; simp (disch := omega) only [pk_un]; exact hp.2.1) (by rw [pk_us, b5]) (by omega) (by have := hG.2.2.2.2.2.2; omega)
          rw [upd_upd, ← hv, upd_id] at hgr
          exact hgr
