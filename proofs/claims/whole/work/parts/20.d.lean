/-! the text: rows of cells -/
def ltN (b : Nat) : Option Nat := if b = 110 then some 0 else if b = 101 then some 1 else if b = 115 then some 2 else if b = 119 then some 3 else if b = 112 then some 4 else if b = 120 then some 5 else if b = 111 then some 6 else if b = 99 then some 7 else none
def lt1 (o : Option Nat) : Int32 := match o with | none => -1 | some k => nI k
def lt4 (o : Option Nat) : Int32 := match o with | none => -4 | some k => nI k
theorem ltN_b {b k : Nat} (h : ltN b = some k) : k < 8 := by
  unfold ltN at h
  repeat' split at h
  all_goals first | (cases h; done) | (injection h; omega)
theorem let26 {b : Nat} (h1 : 97 ≤ b) (h2 : b ≤ 122) : b = 97 ∨ b = 98 ∨ b = 99 ∨ b = 100 ∨ b = 101 ∨ b = 102 ∨ b = 103 ∨ b = 104 ∨ b = 105 ∨ b = 106 ∨ b = 107 ∨ b = 108 ∨ b = 109 ∨ b = 110 ∨ b = 111 ∨ b = 112 ∨ b = 113 ∨ b = 114 ∨ b = 115 ∨ b = 116 ∨ b = 117 ∨ b = 118 ∨ b = 119 ∨ b = 120 ∨ b = 121 ∨ b = 122 := by omega
theorem x_letter {b : Nat} {σ : St} (h1 : 97 ≤ b) (h2 : b ≤ 122) : F_J0_indexOf_0f7a4 1 (((nI b).toUInt32 % 65536).toInt32) σ = some (lt1 (ltN b), σ) := by
  rcases let26 h1 h2 with rfl | rfl | rfl | rfl | rfl | rfl | rfl | rfl | rfl | rfl | rfl | rfl | rfl | rfl | rfl | rfl | rfl | rfl | rfl | rfl | rfl | rfl | rfl | rfl | rfl | rfl <;> rfl
theorem m_letter {b : Nat} {σ : St} (h1 : 97 ≤ b) (h2 : b ≤ 122) : F_X11_kindOf (nI b) σ = some (lt4 (ltN b), σ) := by
  rcases let26 h1 h2 with rfl | rfl | rfl | rfl | rfl | rfl | rfl | rfl | rfl | rfl | rfl | rfl | rfl | rfl | rfl | rfl | rfl | rfl | rfl | rfl | rfl | rfl | rfl | rfl | rfl | rfl <;> rfl
def rwF (B : Nat → Nat) (s r : Nat) : Nat → Nat → (Nat → Int32) → Option (Nat → Int32)
  | 0, _, ce => some ce
  | k + 1, i, ce => match ltN (B (s + i)) with
    | none => none
    | some q => rwF B s r k (i + 1) (upd ce (12 * r + i) (nI q))
def c8 (ce : Nat → Int32) : Prop := ∀ j, j < 96 → ∃ k, k < 8 ∧ ce j = nI k
theorem rwF_8 {B : Nat → Nat} {s r : Nat} : ∀ (k i : Nat) (ce ce' : Nat → Int32), c8 ce → rwF B s r k i ce = some ce' → c8 ce' := by
  intro k
  induction k with
  | zero => intro i ce ce' h e; rw [rwF] at e; cases e; exact h
  | succ k ih =>
    intro i ce ce' h e
    rw [rwF] at e
    cases hl : ltN (B (s + i)) with
    | none => rw [hl] at e; cases e
    | some q =>
      rw [hl] at e
      refine ih (i + 1) _ ce' ?_ e
      intro j hj
      by_cases z : j = 12 * r + i
      · subst z; exact ⟨q, ltN_b hl, pk_us⟩
      · rw [pk_un z]; exact h j hj
theorem let97 {c : Nat} (h : kdB c = 1) : 97 ≤ c ∧ c ≤ 122 := by
  unfold kdB at h
  split at h
  · assumption
  · split at h
    · omega
    · split at h <;> omega
theorem x_rowL {n : Nat} {B : Nat → Nat} {x : St} {s e r l : Nat} {ru to : Nat → Int32} (hT : TXb n B x) (he : e ≤ n) (h12 : e - s = 12) (hlet : ∀ j, s ≤ j → j < e → 97 ≤ B j ∧ B j ≤ 122) (hr : r < 8) (ka kb : St → Option (Unit × St)) : ∀ (k i fu : Nat) (σ : St) (ce : Nat → Int32), i + k = 12 → k < fu → XS x σ n e r l ru ce to → σ.1 (2, 0, 0) 8 = nI s →
    (rwF B s r k i ce = none ∧ ∃ σ' ce', L_X8_readRow_57 fu (nI i) σ ka kb = ka σ' ∧ XS x σ' n e r l ru ce' to ∧ σ'.1 (2, 0, 0) 8 = nI s) ∨ (∃ ce' σ', rwF B s r k i ce = some ce' ∧ L_X8_readRow_57 fu (nI i) σ ka kb = kb σ' ∧ XS x σ' n e r l ru ce' to) := by
  intro k
  induction k with
  | zero =>
    intro i fu σ ce hk hf hX h8
    obtain ⟨f, rfl⟩ : ∃ f, fu = f + 1 := ⟨fu - 1, by omega⟩
    have z : 12 ≤ i := by omega
    right
    refine ⟨ce, σ, rfl, ?_, hX⟩
    simp (disch := omega) only [L_X8_readRow_57, i_lel, z, ↓reduceIte]
  | succ k ih =>
    intro i fu σ ce hk hf hX h8
    obtain ⟨f, rfl⟩ : ∃ f, fu = f + 1 := ⟨fu - 1, by omega⟩
    have hn := hT.1
    have z : ¬ 12 ≤ i := by omega
    obtain ⟨h1, h2, h3, h4, h5, h6, h7, h9, h10⟩ := id hX
    have hb := x_byte (j := s + i) (TX_K hT h1) h2 (by omega)
    have eb : bt n B (s + i) = B (s + i) := if_pos (by omega)
    rw [eb] at hb
    have hl := hlet (s + i) (by omega) (by omega)
    have hx := x_letter (σ := σ) hl.1 hl.2
    rw [rwF]
    cases hq : ltN (B (s + i)) with
    | none =>
      rw [hq] at hx
      have n1 : ¬ (0 : Int32) ≤ lt1 none := by decide
      left
      refine ⟨rfl, σ, ce, ?_, hX, h8⟩
      rw [L_X8_readRow_57.eq_2]
      simp (disch := omega) only [i_lel, z, ↓reduceIte, h8, nI_add, hb, bd_i, hx, n1]
    | some q =>
      rw [hq] at hx
      have hq8 := ltN_b hq
      have p1 : (0 : Int32) ≤ nI q := nI_pos' (by omega)
      have e1 : lt1 (some q) = nI q := rfl
      rw [e1] at hx
      have ei : nI (r * 12 + i) = nI (12 * r + i) := by rw [show r * 12 + i = 12 * r + i by omega]
      have hX' : XS x (uI σ (5, 0, 0) (12 * r + i) (nI q)) n e r l ru (upd ce (12 * r + i) (nI q)) to := by
        refine ⟨KX_u (Or.inr (Or.inr (Or.inl ⟨by omega, by omega⟩))) h1, by rw [rd_t (by omega)]; exact h2, by rw [rd_t (by omega)]; exact h3, by rw [rd_t (by omega)]; exact h4, by rw [rd_t (by omega)]; exact h5, by rw [rd_t (by omega)]; exact h6, by rw [rd_t (by omega)]; exact h7, ?_, by rw [rd_t (by omega)]; exact h10⟩
        intro j hj
        rw [rd_e]
        by_cases e : j = 12 * r + i
        · subst e; rw [pk_us, pk_us]
        · rw [pk_un e, pk_un e]; exact h9 j hj
      have := ih (i + 1) f _ _ (by omega) (by omega) hX' (by rw [rd_t (by omega)]; exact h8)
      have step : L_X8_readRow_57 (f + 1) (nI i) σ ka kb = L_X8_readRow_57 f (nI (i + 1)) (uI σ (5, 0, 0) (12 * r + i) (nI q)) ka kb := by
        rw [L_X8_readRow_57.eq_2]
        simp (disch := omega) only [i_lel, z, ↓reduceIte, h8, nI_add, hb, bd_i, hx, p1, h4, i_ml, ei, inb_i, ck_i, nI_clamp, nam_i, i_al]
      rw [step]
      exact this
theorem m_rowL {n : Nat} {B : Nat → Nat} {m : St} {s e r : Nat} {ru to : Nat → Int32} (hT : TMb n B m) (he : e ≤ n) (h12 : e - s = 12) (hlet : ∀ j, s ≤ j → j < e → 97 ≤ B j ∧ B j ≤ 122) (hr : r < 8) (kx : St → Option (Unit × St)) : ∀ (k i fu : Nat) (τ : St) (ce : Nat → Int32), i + k = 12 → k + 1 < fu → MS m τ r ru ce to → τ.1 (40, 0, 0) 13 = 0 → τ.1 (40, 0, 0) 10 = nI s → τ.1 (40, 0, 0) 9 = nI e →
    (rwF B s r k i ce = none ∧ ∃ τ', L_X11_readRow_58 fu (nI i) τ kx = kx τ' ∧ FM τ' 3 s ∧ KMf m τ' ∧ τ'.1 (40, 0, 0) 5 = nI r) ∨ (∃ ce' τ', rwF B s r k i ce = some ce' ∧ L_X11_readRow_58 fu (nI i) τ kx = kx τ' ∧ MS m τ' r ru ce' to ∧ τ'.1 (40, 0, 0) 13 = 0 ∧ τ'.1 (40, 0, 0) 9 = nI e) := by
  intro k
  induction k with
  | zero =>
    intro i fu τ ce hk hf hM h13 h10 h9
    obtain ⟨f, rfl⟩ : ∃ f, fu = f + 1 := ⟨fu - 1, by omega⟩
    have z : 12 ≤ i := by omega
    right
    refine ⟨ce, τ, rfl, ?_, hM, h13, h9⟩
    simp (disch := omega) only [L_X11_readRow_58, i_lel, z, ↓reduceIte]
  | succ k ih =>
    intro i fu τ ce hk hf hM h13 h10 h9
    obtain ⟨f, rfl⟩ : ∃ f, fu = f + 1 + 1 := ⟨fu - 2, by omega⟩
    have hn := hT.1
    have z : ¬ 12 ≤ i := by omega
    obtain ⟨h1, h2, h3, h4, h5⟩ := id hM
    have l := m_look (j := s + i) (TM_K hT h1) (by omega)
    rw [if_pos (by omega)] at l
    have hl := hlet (s + i) (by omega) (by omega)
    have hx := m_letter (σ := τ) hl.1 hl.2
    rw [rwF]
    cases hq : ltN (B (s + i)) with
    | none =>
      rw [hq] at hx
      have e4 : lt4 none = -4 := rfl
      rw [e4] at hx
      have hN0 : NXf τ (uI (uI τ (40, 0, 0) 13 3) (40, 0, 0) 14 (nI s)) := NXf_u (by omega) (by omega) (NXf_u (by omega) (by omega) NXf_rfl)
      have q5 : (uI (uI τ (40, 0, 0) 13 3) (40, 0, 0) 14 (nI s)).1 (40, 0, 0) 5 = nI r := by simp (disch := omega) only [rd_e, pk_un]; exact h2
      have nd := m_needs0 (a2 := 3) h13
      rw [h10] at nd
      left
      refine ⟨rfl, uI (uI (uI τ (40, 0, 0) 13 3) (40, 0, 0) 14 (nI s)) (46, 0, 0) (12 * r + i) 4, ?_, ⟨?_, ?_⟩, KMf_o (KMf_N h1 hN0) (by omega), ?_⟩
      · have f13 : ¬ (uI (uI (uI τ (40, 0, 0) 13 3) (40, 0, 0) 14 (nI s)) (46, 0, 0) (12 * r + i) 4).1 (40, 0, 0) 13 = 0 := by
          simp (disch := omega) only [rd_t, rd_e, pk_un, pk_us]
          decide
        rw [L_X11_readRow_58.eq_2]
        simp (disch := omega) only [i_lel, z, ↓reduceIte, h13, h10, nI_add, l, bd_i, hx, nam_i, nd, q5, i_lm, inb_i, ck_i, nI_clamp, i_al]
        rw [L_X11_readRow_58.eq_2]
        simp only [f13, ↓reduceIte, ite_self]
      · simp (disch := omega) only [rd_t, rd_e, pk_un, pk_us]; rfl
      · simp (disch := omega) only [rd_t, rd_e, pk_us]
      · simp (disch := omega) only [rd_t]; exact q5
    | some q =>
      rw [hq] at hx
      have hq8 := ltN_b hq
      have e1 : lt4 (some q) = nI q := rfl
      rw [e1] at hx
      have n4 : ¬ nI q = -4 := by rw [i_nm4 (by omega)]; exact not_false
      have hM' : MS m (uI τ (46, 0, 0) (12 * r + i) (nI q)) r ru (upd ce (12 * r + i) (nI q)) to := by
        refine ⟨KMf_o h1 (by omega), by rw [rd_t (by omega)]; exact h2, by rw [rd_t (by omega)]; exact h3, ?_, by rw [rd_t (by omega)]; exact h5⟩
        intro j hj
        rw [rd_e]
        by_cases e : j = 12 * r + i
        · subst e; rw [pk_us, pk_us]
        · rw [pk_un e, pk_un e]; exact h4 j hj
      have := ih (i + 1) (f + 1) _ _ (by omega) (by omega) hM' (by rw [rd_t (by omega)]; exact h13) (by rw [rd_t (by omega)]; exact h10) (by rw [rd_t (by omega)]; exact h9)
      have step : L_X11_readRow_58 (f + 1 + 1) (nI i) τ kx = L_X11_readRow_58 (f + 1) (nI (i + 1)) (uI τ (46, 0, 0) (12 * r + i) (nI q)) kx := by
        rw [L_X11_readRow_58.eq_2]
        simp (disch := omega) only [i_lel, z, ↓reduceIte, h13, h10, nI_add, l, bd_i, hx, n4, nam_i, m_needs1 (show ¬ (1 : Int32) = 0 by decide), h2, i_lm, inb_i, ck_i, nI_clamp, i_al]
      rw [step]
      exact this
/-- a row read on both sides -/
theorem J_row {n : Nat} {B : Nat → Nat} {x m σ τ : St} {p r l : Nat} {ru ce to : Nat → Int32} (hT : TXb n B x) (hTm : TMb n B m) (hp : p ≤ n) (hr : r < 8) (hce : c8 ce) (hX : XS x σ n p r l ru ce to) (hM : MS m τ r ru ce to) (hN : NMf n B τ p) :
    (∃ ft pl σ' τ', F_X8_readRow σ = some ((), σ') ∧ F_X11_readRow τ = some ((), τ') ∧ FX x σ' ft pl ∧ FM τ' ft pl ∧ KMf m τ') ∨
    (∃ q ce' σ' τ', q ≤ n ∧ p < q ∧ c8 ce' ∧ F_X8_readRow σ = some ((), σ') ∧ F_X11_readRow τ = some ((), τ') ∧ XS x σ' n q (r + 1) l ru ce' to ∧ MS m τ' (r + 1) ru ce' to ∧ NMf n B τ' q) := by
  have hn := hT.1
  have hb := tS_b (B := B) hp
  have hE := tE_b (B := B) hp
  have h6 : σ.1 (2, 0, 0) 6 = nI r := hX.2.2.2.1
  have eX : F_X8_readRow σ = (bd (F_X8_take (1 : Int32) σ) fun _ σ3 => (if (σ3.1 (2, 0, 0) 10) = 0 then (if ((σ3.1 (2, 0, 0) 5) - (σ3.1 (2, 0, 0) 8)) = (12 : Int32) then L_X8_readRow_57  FU (0 : Int32) σ3 (fun  (σ16 : St) => bd (F_X8_refuse (3 : Int32) (σ16.1 (2, 0, 0) 8) σ16) fun _ σ17 => some ((), σ17)) (fun  (σ19 : St) => nam (uI σ19 (2, 0, 0) 6 ((σ19.1 (2, 0, 0) 6) + (1 : Int32))) fun σ20 => some ((), σ20)) else bd (F_X8_refuse (3 : Int32) (σ3.1 (2, 0, 0) 8) σ3) fun _ σ21 => some ((), σ21)) else some ((), σ3))) := by
    rw [F_X8_readRow, nam_i, h6, if_pos (show nI r < 8 from nI_lt (b := 8) (by omega) (by omega))]
  rcases x_take' (w := 1) hT hp (by omega) hX with ⟨ok, hK, e1, hX'⟩ | ⟨ok, hK, σ', e1, hF⟩ | ⟨ok, σ', e1, hF⟩
  · have e1' : F_X8_take 1 σ = _ := e1
    have t10 : (tkX σ (tS n B p) (tK n B p) (tE n B p)).1 (2, 0, 0) 10 = 0 := hX'.2.2.2.2.2.1
    rw [e1', bd_i, if_pos t10, tk_5, tk_8, pk_sub hE.1] at eX
    rcases hN with ⟨_, n13, n11, n10, n9, n12⟩ | ⟨nok, _⟩
    · have hs : tS n B p < n := by
        rcases Nat.lt_or_ge (tS n B p) n with q | q
        · exact q
        · exfalso
          have : tK n B p = kdB (bt n B (tS n B p)) := rfl
          have e0 : bt n B (tS n B p) = 0 := if_neg (by omega)
          rw [e0, hK] at this
          exact absurd this (by decide)
      have hlt := hE.2.2 hs
      have hlet : ∀ j, tS n B p ≤ j → j < tE n B p → 97 ≤ B j ∧ B j ≤ 122 := by
        intro j h1 h2
        apply let97
        have hEd : tE n B p = if tS n B p < n then (if tK n B p = 3 then tS n B p + 1 else runK B (tK n B p) (n - (tS n B p + 1)) (tS n B p + 1)) else tS n B p := rfl
        rw [if_pos hs, if_neg (by omega), hK] at hEd
        rcases Nat.lt_or_ge (tS n B p) j with q | q
        · exact run_in _ _ j q (by rw [← hEd]; exact h2)
        · have : tK n B p = kdB (bt n B (tS n B p)) := rfl
          rw [show bt n B (tS n B p) = B (tS n B p) from if_pos hs, hK] at this
          rw [show j = tS n B p by omega]
          exact this.symm
      have k1 : nI (tK n B p) = 1 := by rw [hK]; rfl
      have nd1 : ∀ a2 τ, F_X11_needs 1 a2 τ = some ((), τ) := fun a2 τ => m_needs1 (by decide)
      by_cases h12 : tE n B p - tS n B p = 12
      · rw [if_pos (by rw [h12]; rfl)] at eX
        have eM : F_X11_readRow τ = L_X11_readRow_58  FU (0 : Int32) τ (fun  (σ26 : St) => nam (fun (y27 : Int32) (σ29 : St) => bd (F_X11_flag y27 σ29) fun r31 σ30 => nam (uI σ30 (40, 0, 0) 5 ((σ26.1 (40, 0, 0) 5) + r31)) fun σ33 => bd (F_X11_next  σ33) fun _ σ34 => some ((), σ34)) fun k28 => (if (σ26.1 (40, 0, 0) 13) = 0 then k28 (1 : Int32) σ26 else k28 (0 : Int32) σ26)) := by
          have e12 : nI (tE n B p) - nI (tS n B p) = 12 := by rw [pk_sub hE.1, h12]; rfl
          rw [F_X11_readRow]
          simp only [n13, n11, k1, ↓reduceIte, nam_i, nd1, bd_i, n9, n10, e12]
        have h12' := h12
        have XL := x_rowL (B := B) (s := tS n B p) hT hE.2.1 h12 hlet hr (fun  (σ16 : St) => bd (F_X8_refuse (3 : Int32) (σ16.1 (2, 0, 0) 8) σ16) fun _ σ17 => some ((), σ17)) (fun  (σ19 : St) => nam (uI σ19 (2, 0, 0) 6 ((σ19.1 (2, 0, 0) 6) + (1 : Int32))) fun σ20 => some ((), σ20)) 12 0 FU _ ce (by omega) (by unfold FU; omega) hX' tk_8
        have ML := m_rowL (B := B) (s := tS n B p) hTm hE.2.1 h12 hlet hr (fun  (σ26 : St) => nam (fun (y27 : Int32) (σ29 : St) => bd (F_X11_flag y27 σ29) fun r31 σ30 => nam (uI σ30 (40, 0, 0) 5 ((σ26.1 (40, 0, 0) 5) + r31)) fun σ33 => bd (F_X11_next  σ33) fun _ σ34 => some ((), σ34)) fun k28 => (if (σ26.1 (40, 0, 0) 13) = 0 then k28 (1 : Int32) σ26 else k28 (0 : Int32) σ26)) 12 0 FU τ ce (by omega) (by unfold FU; omega) hM n13 n10 n9
        rcases XL with ⟨a0, σ', ce1, a1, a2, a3⟩ | ⟨ce1, σ', a0, a1, a2⟩
        · rcases ML with ⟨c0, τ', c1, c2, c3, c4⟩ | ⟨ce2, τ', c0, _⟩
          · left
            have f10 : σ'.1 (2, 0, 0) 10 = 0 := a2.2.2.2.2.2.1
            have f13 := FM_n0 c2 (by omega) (by omega)
            have ref : F_X8_refuse (3 : Int32) (nI (tS n B p)) σ' = some ((), ftX σ' 3 (tS n B p)) := x_refuse (ft := 3) f10
            have hFM2 : FM (uI τ' (40, 0, 0) 5 (nI r)) 3 (tS n B p) := by
              refine ⟨?_, ?_⟩
              · rw [rd_e, pk_un (by omega)]; exact c2.1
              · rw [rd_e, pk_un (by omega)]; exact c2.2
            refine ⟨3, tS n B p, ftX σ' 3 (tS n B p), uI τ' (40, 0, 0) 5 (nI r), ?_, ?_, FX_ft a2.1 (by omega) (by omega) (by omega), hFM2, KMf_5 c3⟩
            · rw [eX]
              refine Eq.trans a1 ?_
              rw [a3, ref, bd_i]
            · rw [eM]
              refine Eq.trans c1 ?_
              rw [nam_i, if_neg f13]
              show bd (F_X11_flag 0 τ') _ = _
              rw [m_fl0, bd_i, nam_i, c4, Int32.add_zero, m_nextF hFM2 (by omega) (by omega), bd_i]
          · rw [a0] at c0; cases c0
        · rcases ML with ⟨c0, _⟩ | ⟨ce2, τ', c0, c1, c2, c3, c4⟩
          · rw [a0] at c0; cases c0
          · rw [a0] at c0
            cases c0
            right
            have hM2 : MS m (uI τ' (40, 0, 0) 5 (nI (r + 1))) (r + 1) ru ce1 to := by
              obtain ⟨d1, d2, d3, d4, d5⟩ := c2
              refine ⟨KMf_5 d1, by rw [rd_e, pk_us], by rw [rd_t (by omega)]; exact d3, by rw [rd_t (by omega)]; exact d4, by rw [rd_t (by omega)]; exact d5⟩
            obtain ⟨τ2, f1, f2, f3⟩ := m_tok (p := tE n B p) (σ := uI τ' (40, 0, 0) 5 (nI (r + 1))) hE.2.1 (TM_K hTm hM2.1) (by rw [rd_e, pk_un (by omega)]; exact c4) (by rw [rd_e, pk_un (by omega)]; exact c3)
            refine ⟨tE n B p, ce1, uI σ' (2, 0, 0) 6 (nI (r + 1)), τ2, hE.2.1, by omega, rwF_8 12 0 ce ce1 hce a0, ?_, ?_, ?_, MS_N hM2 f2, f3⟩
            · rw [eX]
              refine Eq.trans a1 ?_
              rw [nam_i, a2.2.2.2.1, i_al]
            · rw [eM]
              refine Eq.trans c1 ?_
              rw [nam_i, if_pos c3]
              show bd (F_X11_flag 1 τ') _ = _
              rw [m_fl1, bd_i, nam_i, c2.2.1, i_al, f1, bd_i]
            · obtain ⟨d1, d2, d3, d4, d5, d6, d7, d8, d9⟩ := a2
              refine ⟨K_2 d1, by rw [rd_e, pk_un (by omega)]; exact d2, by rw [rd_e, pk_un (by omega)]; exact d3, by rw [rd_e, pk_us], by rw [rd_e, pk_un (by omega)]; exact d5, by rw [rd_e, pk_un (by omega)]; exact d6, by rw [rd_t (by omega)]; exact d7, by rw [rd_t (by omega)]; exact d8, by rw [rd_t (by omega)]; exact d9⟩
      · left
        have h12' : ¬ nI (tE n B p - tS n B p) = 12 := by rw [i_eqr (by omega) (by decide)]; exact h12
        have h12m : ¬ nI (tE n B p) - nI (tS n B p) = 12 := by rw [pk_sub hE.1]; exact h12'
        rw [if_neg h12'] at eX
        have ref : F_X8_refuse (3 : Int32) (nI (tS n B p)) (tkX σ (tS n B p) (tK n B p) (tE n B p)) = some ((), ftX (tkX σ (tS n B p) (tK n B p) (tE n B p)) 3 (tS n B p)) := x_refuse (ft := 3) t10
        have hN0 : NXf τ (uI (uI τ (40, 0, 0) 13 3) (40, 0, 0) 14 (τ.1 (40, 0, 0) 10)) := NXf_u (by omega) (by omega) (NXf_u (by omega) (by omega) NXf_rfl)
        have hFM : FM (uI (uI τ (40, 0, 0) 13 3) (40, 0, 0) 14 (τ.1 (40, 0, 0) 10)) 3 (tS n B p) := by
          refine ⟨?_, ?_⟩
          · simp (disch := omega) only [rd_e, pk_un, pk_us]; rfl
          · rw [rd_e, pk_us, n10]
        have r5 : (uI (uI τ (40, 0, 0) 13 3) (40, 0, 0) 14 (τ.1 (40, 0, 0) 10)).1 (40, 0, 0) 5 = nI r := by simp (disch := omega) only [rd_e, pk_un]; exact hM.2.1
        have hK0 := KMf_N hM.1 hN0
        have eM : F_X11_readRow τ = L_X11_readRow_58  FU (0 : Int32) (uI (uI τ (40, 0, 0) 13 3) (40, 0, 0) 14 (τ.1 (40, 0, 0) 10)) (fun  (σ26 : St) => nam (fun (y27 : Int32) (σ29 : St) => bd (F_X11_flag y27 σ29) fun r31 σ30 => nam (uI σ30 (40, 0, 0) 5 ((σ26.1 (40, 0, 0) 5) + r31)) fun σ33 => bd (F_X11_next  σ33) fun _ σ34 => some ((), σ34)) fun k28 => (if (σ26.1 (40, 0, 0) 13) = 0 then k28 (1 : Int32) σ26 else k28 (0 : Int32) σ26)) := by
          rw [F_X11_readRow]
          simp only [n13, n11, k1, ↓reduceIte, nam_i, nd1, bd_i, n9, n10, h12m, m_needs0 n13]
        generalize uI (uI τ (40, 0, 0) 13 3) (40, 0, 0) 14 (τ.1 (40, 0, 0) 10) = ρ at *
        have f13 := FM_n0 hFM (by omega) (by omega)
        have hFM2 : FM (uI ρ (40, 0, 0) 5 (nI r)) 3 (tS n B p) := by
          refine ⟨?_, ?_⟩
          · rw [rd_e, pk_un (by omega)]; exact hFM.1
          · rw [rd_e, pk_un (by omega)]; exact hFM.2
        refine ⟨3, tS n B p, ftX (tkX σ (tS n B p) (tK n B p) (tE n B p)) 3 (tS n B p), uI ρ (40, 0, 0) 5 (nI r), ?_, ?_, FX_ft hX'.1 (by omega) (by omega) (by omega), hFM2, KMf_5 hK0⟩
        · rw [eX, ref, bd_i]
        · have n12' : ¬ (12 : Int32) ≤ 0 := by decide
          rw [eM, show FU = 999 + 1 from rfl, L_X11_readRow_58.eq_2, if_neg n12', if_neg f13, nam_i, if_neg f13]
          show bd (F_X11_flag 0 ρ) _ = _
          rw [m_fl0, bd_i, nam_i, r5, Int32.add_zero, m_nextF hFM2 (by omega) (by omega), bd_i]
    · exact absurd ok nok
  · left
    have n0 : ¬ σ'.1 (2, 0, 0) 10 = 0 := by rw [hF.2.1]; exact nI_ne0 hF.2.2.2.1 (by omega)
    have e1' : F_X8_take 1 σ = _ := e1
    rw [e1', bd_i, if_neg n0] at eX
    rcases hN with ⟨_, n13, n11, n10, n9, n12⟩ | ⟨nok, _⟩
    · have hK3 : tK n B p ≤ 3 := kdB_b _
      have k1 : ¬ nI (tK n B p) = 1 := by rw [i_eqr (by omega) (by decide)]; exact hK
      have hN0 : NXf τ (uI (uI τ (40, 0, 0) 13 2) (40, 0, 0) 14 (τ.1 (40, 0, 0) 10)) := NXf_u (by omega) (by omega) (NXf_u (by omega) (by omega) NXf_rfl)
      have hFM : FM (uI (uI τ (40, 0, 0) 13 2) (40, 0, 0) 14 (τ.1 (40, 0, 0) 10)) 2 (tS n B p) := by
        refine ⟨?_, ?_⟩
        · simp (disch := omega) only [rd_e, pk_un, pk_us]; rfl
        · rw [rd_e, pk_us, n10]
      have f13 := FM_n0 hFM (by omega) (by omega)
      have r5 : (uI (uI τ (40, 0, 0) 13 2) (40, 0, 0) 14 (τ.1 (40, 0, 0) 10)).1 (40, 0, 0) 5 = nI r := by simp (disch := omega) only [rd_e, pk_un]; exact hM.2.1
      have hK0 := KMf_N hM.1 hN0
      have eM : F_X11_readRow τ = L_X11_readRow_58  FU (0 : Int32) (uI (uI τ (40, 0, 0) 13 2) (40, 0, 0) 14 (τ.1 (40, 0, 0) 10)) (fun  (σ26 : St) => nam (fun (y27 : Int32) (σ29 : St) => bd (F_X11_flag y27 σ29) fun r31 σ30 => nam (uI σ30 (40, 0, 0) 5 ((σ26.1 (40, 0, 0) 5) + r31)) fun σ33 => bd (F_X11_next  σ33) fun _ σ34 => some ((), σ34)) fun k28 => (if (σ26.1 (40, 0, 0) 13) = 0 then k28 (1 : Int32) σ26 else k28 (0 : Int32) σ26)) := by
        rw [F_X11_readRow]
        simp only [n13, n11, k1, ↓reduceIte, nam_i, m_needs0 n13, bd_i, f13]
      generalize uI (uI τ (40, 0, 0) 13 2) (40, 0, 0) 14 (τ.1 (40, 0, 0) 10) = ρ at *
      have hFM2 : FM (uI ρ (40, 0, 0) 5 (nI r)) 2 (tS n B p) := by
        refine ⟨?_, ?_⟩
        · rw [rd_e, pk_un (by omega)]; exact hFM.1
        · rw [rd_e, pk_un (by omega)]; exact hFM.2
      refine ⟨2, tS n B p, σ', uI ρ (40, 0, 0) 5 (nI r), eX, ?_, hF, hFM2, KMf_5 hK0⟩
      have n12' : ¬ (12 : Int32) ≤ 0 := by decide
      rw [eM, show FU = 999 + 1 from rfl, L_X11_readRow_58.eq_2, if_neg n12', if_neg f13, nam_i, if_neg f13]
      show bd (F_X11_flag 0 ρ) _ = _
      rw [m_fl0, bd_i, nam_i, r5, Int32.add_zero, m_nextF hFM2 (by omega) (by omega), bd_i]
    · exact absurd ok nok
  · left
    have n0 : ¬ σ'.1 (2, 0, 0) 10 = 0 := by rw [hF.2.1]; exact nI_ne0 hF.2.2.2.1 (by omega)
    have e1' : F_X8_take 1 σ = _ := e1
    rw [e1', bd_i, if_neg n0] at eX
    rcases hN with hN | ⟨nok, hFM⟩
    · exact absurd hN.1 ok
    · have f13 := FM_n0 hFM (by omega) (by omega)
      have hFM2 : FM (uI τ (40, 0, 0) 5 (nI r)) 1 (tS n B p) := by
        refine ⟨?_, ?_⟩
        · rw [rd_e, pk_un (by omega)]; exact hFM.1
        · rw [rd_e, pk_un (by omega)]; exact hFM.2
      refine ⟨1, tS n B p, σ', uI τ (40, 0, 0) 5 (nI r), eX, ?_, hF, hFM2, KMf_5 hM.1⟩
      have n12' : ¬ (12 : Int32) ≤ 0 := by decide
      rw [F_X11_readRow]
      simp only [nam_i, f13, ↓reduceIte]
      rw [show FU = 999 + 1 from rfl, L_X11_readRow_58.eq_2, if_neg n12', if_neg f13]
      simp only [nam_i, f13, ↓reduceIte, m_fl0, bd_i, hM.2.1, Int32.add_zero, m_nextF hFM2 (show 1 ≤ 1 by omega) (show 1 ≤ 6 by omega)]
