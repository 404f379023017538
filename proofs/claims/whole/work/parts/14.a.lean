/-! what holds of a scene, and stays so -/
def sm (f : Nat → Nat) : Nat → Nat
  | 0 => 0
  | n + 1 => sm f n + f n
theorem sm_cong {f f' : Nat → Nat} : ∀ {n : Nat}, (∀ e, e < n → f' e = f e) → sm f' n = sm f n
  | 0, _ => rfl
  | n + 1, h => by rw [sm, sm, sm_cong (fun e he => h e (by omega)), h n (by omega)]
theorem sm_ch {f f' : Nat → Nat} {d : Nat} : ∀ {n : Nat}, d < n → (∀ e, e < n → e ≠ d → f' e = f e) → sm f' n + f d = sm f n + f' d
  | 0, h, _ => by omega
  | n + 1, h, hh => by
    rw [sm, sm]
    by_cases e : d = n
    · subst e
      rw [sm_cong (fun e he => hh e (by omega) (by omega))]
      omega
    · have := sm_ch (n := n) (by omega) (fun e he hne => hh e (by omega) hne)
      rw [hh n (by omega) (fun q => e q.symm)]
      omega
theorem sm_part {f : Nat → Nat} {d : Nat} : ∀ {n : Nat}, d < n → f d ≤ sm f n
  | 0, h => by omega
  | n + 1, h => by
    rw [sm]
    by_cases e : d = n
    · subst e; omega
    · have := sm_part (f := f) (n := n) (d := d) (by omega)
      omega
def tz (g : Nat → Int32) (d : Nat) : Nat := if g (132 + d) = 0 then (g (108 + d)).toNatClampNeg else 0
/-- a drop that is there is as it should be -/
def dok (g : Nat → Int32) (d : Nat) : Prop := ∃ c s w k, c < 96 ∧ g (96 + d) = nI c ∧ 0 < s ∧ s < 2 ^ 31 ∧ g (108 + d) = nI s ∧ w < 4 ∧ g (120 + d) = nI w ∧ g c = nI k ∧ k < 8 ∧ k ≠ 5 ∧ k ≠ 6
def Gd (n : Nat) (g : Nat → Int32) : Prop := n ≤ 12 ∧ g 176 = nI n ∧ (∀ c, c < 96 → ∃ k, k < 8 ∧ g c = nI k) ∧ (∃ h, h < 100 ∧ g 169 = nI h) ∧ (g 170 = 0 ∨ g 170 = 1) ∧ (∀ d, d < n → g (132 + d) = 0 → dok g d ∧ lone n d g) ∧ sm (tz g) n ≤ 60 * n
/-- the slots that tell -/
def rl (n j : Nat) : Prop := j < 96 ∨ (96 ≤ j ∧ j < 168 ∧ (j - 96) % 12 < n) ∨ (168 ≤ j ∧ j ≤ 176)
def Eqv (n : Nat) (g g' : Nat → Int32) : Prop := ∀ j, rl n j → g' j = g j
theorem rl_c {n c : Nat} (h : c < 96) : rl n c := Or.inl h
theorem rl_s {n j : Nat} (h : 168 ≤ j) (h2 : j ≤ 176) : rl n j := Or.inr (Or.inr ⟨h, h2⟩)
theorem rl_d {n d j : Nat} (k : Nat) (h : d < n) (h12 : n ≤ 12) (hk : k < 6) (e : j = 96 + 12 * k + d) : rl n j := Or.inr (Or.inl ⟨by omega, by omega, by omega⟩)
theorem rl_m {n n' j : Nat} (h : rl n j) (hn : n ≤ n') : rl n' j := by
  rcases h with h | h | h
  · exact Or.inl h
  · exact Or.inr (Or.inl ⟨h.1, h.2.1, by omega⟩)
  · exact Or.inr (Or.inr h)
section EQ
variable {n d : Nat} {g g' : Nat → Int32}
theorem Eqv.c (h : Eqv n g g') {c : Nat} (hc : c < 96) : g' c = g c := h _ (rl_c hc)
theorem Eqv.s (h : Eqv n g g') {j : Nat} (h1 : 168 ≤ j) (h2 : j ≤ 176) : g' j = g j := h _ (rl_s h1 h2)
theorem Eqv.at (h : Eqv n g g') (hd : d < n) (h12 : n ≤ 12) : g' (96 + d) = g (96 + d) := h _ (rl_d 0 hd h12 (by omega) (by omega))
theorem Eqv.big (h : Eqv n g g') (hd : d < n) (h12 : n ≤ 12) : g' (108 + d) = g (108 + d) := h _ (rl_d 1 hd h12 (by omega) (by omega))
theorem Eqv.way (h : Eqv n g g') (hd : d < n) (h12 : n ≤ 12) : g' (120 + d) = g (120 + d) := h _ (rl_d 2 hd h12 (by omega) (by omega))
theorem Eqv.gone (h : Eqv n g g') (hd : d < n) (h12 : n ≤ 12) : g' (132 + d) = g (132 + d) := h _ (rl_d 3 hd h12 (by omega) (by omega))
theorem Eqv.whn (h : Eqv n g g') (hd : d < n) (h12 : n ≤ 12) : g' (144 + d) = g (144 + d) := h _ (rl_d 4 hd h12 (by omega) (by omega))
theorem Eqv.whom (h : Eqv n g g') (hd : d < n) (h12 : n ≤ 12) : g' (156 + d) = g (156 + d) := h _ (rl_d 5 hd h12 (by omega) (by omega))
theorem Eqv_upd {k : Nat} {v v' : Int32} (h : Eqv n g g') (hv : v' = v) : Eqv n (upd g k v) (upd g' k v') := by
  subst hv
  intro j hj
  by_cases e : j = k
  · subst e; rw [pk_us, pk_us]
  · rw [pk_un e, pk_un e]; exact h j hj
theorem Eqv_rfl : Eqv n g g := fun _ _ => rfl
theorem Eqv_symm (h : Eqv n g g') : Eqv n g' g := fun j hj => (h j hj).symm
theorem Eqv_trans {g'' : Nat → Int32} (h : Eqv n g g') (h' : Eqv n g' g'') : Eqv n g g'' := fun j hj => (h' j hj).trans (h j hj)
theorem tz_eqv (h : Eqv n g g') (hd : d < n) (h12 : n ≤ 12) : tz g' d = tz g d := by rw [tz, tz, h.gone hd h12, h.big hd h12]
theorem Gd_eqv (h : Eqv n g g') (hG : Gd n g) : Gd n g' := by
  obtain ⟨h1, h2, h3, h4, h5, h6, h7⟩ := hG
  refine ⟨h1, ?_, ?_, ?_, ?_, ?_, ?_⟩
  · rw [h.s (by omega) (by omega), h2]
  · intro c hc
    rw [h.c hc]
    exact h3 c hc
  · rw [h.s (by omega) (by omega)]; exact h4
  · rw [h.s (by omega) (by omega)]; exact h5
  · intro d hd hg
    rw [h.gone hd h1] at hg
    obtain ⟨⟨c, s, w, k, a1, a2, a3, a4, a5, a6, a7, a8, a9⟩, b⟩ := h6 d hd hg
    refine ⟨⟨c, s, w, k, a1, ?_, a3, a4, ?_, a6, ?_, ?_, a9⟩, ?_⟩
    · rw [h.at hd h1, a2]
    · rw [h.big hd h1, a5]
    · rw [h.way hd h1, a7]
    · rw [h.c a1, a8]
    · intro e he hne hge
      rw [h.gone he h1] at hge
      rw [h.at he h1, h.at hd h1]
      exact b e he hne hge
  · rw [sm_cong (fun e he => tz_eqv h he h1)]; exact h7
theorem Eqv_end {how : Int32} (h : Eqv n g g') : Eqv n (endD d how g) (endD d how g') := Eqv_upd (Eqv_upd h rfl) (h.s (by omega) (by omega))
theorem Eqv_lose {z : Int32} (h : Eqv n g g') (hd : d < n) (h12 : n ≤ 12) : Eqv n (lose d z g) (lose d z g') := by
  unfold lose
  rw [h.big hd h12, h.s (j := 171) (by omega) (by omega)]
  split
  · exact Eqv_end (Eqv_upd (Eqv_upd h rfl) rfl)
  · exact Eqv_upd (Eqv_upd h rfl) rfl
theorem Eqv_goOn {R : Nat → Int32} {roll : Int32} (h : Eqv n g g') (hd : d < n) (h12 : n ≤ 12) (hk : dok g d) : Eqv n (goOn R roll n d g) (goOn R roll n d g') := by
  obtain ⟨c, s, w, k, a1, a2, a3, a4, a5, a6, a7, a8, a9, a10, a11⟩ := hk
  have hcc : (nI c).toNatClampNeg = c := nI_clamp (by omega)
  unfold goOn
  rw [h.at hd h12, h.big hd h12, h.way hd h12, h.s (j := 175) (by omega) (by omega), a2, hcc, h.c a1, nam_i, nam_i, a8, a7]
  obtain ⟨j, hj, hje⟩ := wayv_in (R := R) (roll := roll) (s := g (108 + d)) (sd := g 175) a9 a6
  rw [hje]
  generalize (wayv R roll (nI k) (g (108 + d)) (nI w) (g 175)).2 = sd
  have hkk : knd g' (nx (nI c) (nI j)) = knd g (nx (nI c) (nI j)) := by
    rcases nx_in c a1 j hj with q | ⟨t, ht, q, htc⟩
    · rw [q]; rfl
    · have a : ¬ nI t = -4 := by rw [i_nm4 (by omega)]; exact not_false
      rw [q, knd, knd, if_neg a, if_neg a, nI_clamp (by omega), h.c ht]
  have hf : fnd (pC g' (nx (nI c) (nI j)) (nI d)) n 0 = fnd (pC g (nx (nI c) (nI j)) (nI d)) n 0 := fnd_cong (fun e _ he => by rw [pC, pC, h.gone (by omega) h12, h.at (by omega) h12])
  unfold stepG
  rw [hkk, hf, h.s (j := 172) (by omega) (by omega), h.big hd h12]
  split
  · exact Eqv_upd (Eqv_upd h rfl) rfl
  · split
    · exact Eqv_end (Eqv_upd (Eqv_upd (Eqv_upd (Eqv_upd h rfl) rfl) rfl) rfl)
    · cases hfe : fnd (pC g (nx (nI c) (nI j)) (nI d)) n 0 with
      | none => exact Eqv_upd (Eqv_upd (Eqv_upd h rfl) rfl) rfl
      | some e =>
        have he := fnd_some hfe
        unfold joinG
        exact Eqv_end (Eqv_upd (Eqv_upd (Eqv_upd (Eqv_upd (Eqv_upd h rfl) rfl) rfl) (by rw [h.big (by omega) h12, h.big hd h12])) rfl)
end EQ
theorem end_at {d j : Nat} {how : Int32} {g : Nat → Int32} (h3 : j ≠ 132 + d) (h4 : j ≠ 144 + d) : endD d how g j = g j := by
  unfold endD
  rw [pk_un h4, pk_un h3]
theorem end_gone {d : Nat} {how : Int32} {g : Nat → Int32} : endD d how g (132 + d) = how := by
  unfold endD
  rw [pk_un (by omega), pk_us]
/-- one drop has changed -/
theorem Gd_tr {n d : Nat} {g g' : Nat → Int32} (hG : Gd n g) (hd : d < n) (hc : ∀ c, c < 96 → g' c = g c) (h176 : g' 176 = g 176) (h169 : g' 169 = g 169) (h170 : g' 170 = g 170) (ho : ∀ e, e < n → e ≠ d → g' (132 + e) = g (132 + e) ∧ g' (96 + e) = g (96 + e) ∧ g' (108 + e) = g (108 + e) ∧ g' (120 + e) = g (120 + e)) (ht : g' (132 + d) = 0 → dok g' d ∧ lone n d g' ∧ g (132 + d) = 0 ∧ (g' (108 + d)).toNatClampNeg ≤ (g (108 + d)).toNatClampNeg) : Gd n g' ∧ sm (tz g') n + tz g d = sm (tz g) n + tz g' d := by
  obtain ⟨h1, h2, h3, h4, h5, h6, h7⟩ := hG
  have hs : sm (tz g') n + tz g d = sm (tz g) n + tz g' d := sm_ch hd (fun e he hne => by
    have := ho e he hne
    rw [tz, tz, this.1, this.2.2.1])
  refine ⟨⟨h1, by rw [h176, h2], fun c hcc => by rw [hc c hcc]; exact h3 c hcc, by rw [h169]; exact h4, by rw [h170]; exact h5, ?_, ?_⟩, hs⟩
  · intro e he hg
    by_cases hed : e = d
    · subst hed
      exact ⟨(ht hg).1, (ht hg).2.1⟩
    · have ho' := ho e he hed
      rw [ho'.1] at hg
      obtain ⟨⟨c, s, w, k, a1, a2, a3, a4, a5, a6, a7, a8, a9⟩, b⟩ := h6 e he hg
      refine ⟨⟨c, s, w, k, a1, ?_, a3, a4, ?_, a6, ?_, ?_, a9⟩, ?_⟩
      · rw [ho'.2.1, a2]
      · rw [ho'.2.2.1, a5]
      · rw [ho'.2.2.2, a7]
      · rw [hc c a1, a8]
      · intro f hf hne hgf
        by_cases hfd : f = d
        · subst hfd
          have := (ht hgf).2.1 e he hed (by rw [ho'.1]; exact hg)
          exact fun q => this q.symm
        · have hof := ho f hf hfd
          rw [hof.1] at hgf
          rw [hof.2.1, ho'.2.1]
          exact b f hf hne hgf
  · have : tz g' d ≤ tz g d := by
      unfold tz
      split
      · rename_i q
        have := ht q
        rw [if_pos this.2.2.1]
        exact this.2.2.2
      · exact Nat.zero_le _
    omega
