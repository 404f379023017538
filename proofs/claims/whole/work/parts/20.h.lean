/-! the text: a line with a rule -/
def loT (k : Nat) : Nat := [1, 0, 1, 1, 0, 1, 1, 1, 0].getD k 0
def hiT (k : Nat) : Nat := [99, 99, 60, 60, 9, 99, 50, 9, 60].getD k 0
def rkR (k : Nat) : Prop := k = 0 ∨ k = 1 ∨ k = 2 ∨ k = 4 ∨ k = 5 ∨ k = 6 ∨ k = 7 ∨ k = 8
theorem rkR_t {k : Nat} (h : rkR k) : k < 9 ∧ roC 100 k = nI (loT k) ∧ roC 101 k = nI (hiT k) ∧ loT k ≤ 1 ∧ hiT k ≤ 99 ∧ (∀ σ, F_X11_lowest (nI k) σ = some (nI (loT k), σ)) ∧ (∀ σ, F_X11_highest (nI k) σ = some (nI (hiT k), σ)) := by
  rcases h with rfl | rfl | rfl | rfl | rfl | rfl | rfl | rfl <;> exact ⟨by omega, rfl, rfl, by decide, by decide, fun _ => rfl, fun _ => rfl⟩
theorem RG_k {R : Nat → Int32} {k v : Nat} (h : rkR k) (h2 : k ≠ 2) (hR : RG R) (h1 : loT k ≤ v) (h3 : v ≤ hiT k) : RG (upd R k (nI v)) := by
  obtain ⟨a0, a1, ⟨p, q, b1, b2, b3, b4, b5⟩, a4, a5, a6, a7, a8⟩ := hR
  rcases h with rfl | rfl | rfl | rfl | rfl | rfl | rfl | rfl
  · refine ⟨⟨v, h1, h3, pk_us⟩, ?_, ⟨p, q, b1, b2, b3, ?_, ?_⟩, ?_, ?_, ?_, ?_, ?_⟩ <;> rw [pk_un (by omega)] <;> assumption
  · refine ⟨?_, ⟨v, h1, h3, pk_us⟩, ⟨p, q, b1, b2, b3, ?_, ?_⟩, ?_, ?_, ?_, ?_, ?_⟩ <;> rw [pk_un (by omega)] <;> assumption
  · exact absurd rfl h2
  · refine ⟨?_, ?_, ⟨p, q, b1, b2, b3, ?_, ?_⟩, ⟨v, h1, h3, pk_us⟩, ?_, ?_, ?_, ?_⟩ <;> rw [pk_un (by omega)] <;> assumption
  · refine ⟨?_, ?_, ⟨p, q, b1, b2, b3, ?_, ?_⟩, ?_, ⟨v, h1, h3, pk_us⟩, ?_, ?_, ?_⟩ <;> rw [pk_un (by omega)] <;> assumption
  · refine ⟨?_, ?_, ⟨p, q, b1, b2, b3, ?_, ?_⟩, ?_, ?_, ⟨v, h1, h3, pk_us⟩, ?_, ?_⟩ <;> rw [pk_un (by omega)] <;> assumption
  · refine ⟨?_, ?_, ⟨p, q, b1, b2, b3, ?_, ?_⟩, ?_, ?_, ?_, ⟨v, h1, h3, pk_us⟩, ?_⟩ <;> rw [pk_un (by omega)] <;> assumption
  · refine ⟨?_, ?_, ⟨p, q, b1, b2, b3, ?_, ?_⟩, ?_, ?_, ?_, ?_, ⟨v, h1, h3, pk_us⟩⟩ <;> rw [pk_un (by omega)] <;> assumption
theorem RG_23 {R : Nat → Int32} {v w : Nat} (hR : RG R) (h1 : 1 ≤ v) (h2 : v ≤ w) (h3 : w ≤ 60) : RG (upd (upd R 2 (nI v)) 3 (nI w)) := by
  obtain ⟨a0, a1, ⟨p, q, b1, b2, b3, b4, b5⟩, a4, a5, a6, a7, a8⟩ := hR
  refine ⟨?_, ?_, ⟨v, w, h1, h2, h3, by rw [pk_un (by omega), pk_us], pk_us⟩, ?_, ?_, ?_, ?_, ?_⟩ <;> rw [pk_un (by omega), pk_un (by omega)] <;> assumption
def t01 (to : Nat → Int32) : Prop := ∀ k, k < 9 → to k = 0 ∨ to k = 1
theorem t01_u {to : Nat → Int32} {k : Nat} (h : t01 to) : t01 (upd to k 1) := by
  intro j hj
  by_cases e : j = k
  · subst e; exact Or.inr pk_us
  · rw [pk_un e]; exact h j hj
theorem XS_to {x σ : St} {n p r l k : Nat} {ru ce to : Nat → Int32} (h : XS x σ n p r l ru ce to) : XS x (uI σ (6, 0, 0) k 1) n p r l ru ce (upd to k 1) := by
  obtain ⟨h1, h2, h3, h4, h5, h6, h7, h8, h9⟩ := h
  refine ⟨KX_u (Or.inr (Or.inr (Or.inl ⟨by omega, by omega⟩))) h1, by rw [rd_t (by omega)]; exact h2, by rw [rd_t (by omega)]; exact h3, by rw [rd_t (by omega)]; exact h4, by rw [rd_t (by omega)]; exact h5, by rw [rd_t (by omega)]; exact h6, by rw [rd_t (by omega)]; exact h7, by rw [rd_t (by omega)]; exact h8, ?_⟩
  intro j hj
  rw [rd_e]
  by_cases e : j = k
  · subst e; rw [pk_us, pk_us]
  · rw [pk_un e, pk_un e]; exact h9 j hj
theorem MS_to {m τ : St} {r k : Nat} {ru ce to : Nat → Int32} (h : MS m τ r ru ce to) : MS m (uI τ (45, 0, 0) k 1) r ru ce (upd to k 1) := by
  obtain ⟨h1, h2, h3, h4, h5⟩ := h
  refine ⟨KMf_o h1 (by omega), by rw [rd_t (by omega)]; exact h2, by rw [rd_t (by omega)]; exact h3, by rw [rd_t (by omega)]; exact h4, ?_⟩
  intro j hj
  rw [rd_e]
  by_cases e : j = k
  · subst e; rw [pk_us, pk_us]
  · rw [pk_un e, pk_un e]; exact h5 j hj
theorem MS_ru {m τ : St} {r k : Nat} {v : Int32} {ru ce to : Nat → Int32} (h : MS m τ r ru ce to) : MS m (uI τ (44, 0, 0) k v) r (upd ru k v) ce to := by
  obtain ⟨h1, h2, h3, h4, h5⟩ := h
  refine ⟨KMf_o h1 (by omega), by rw [rd_t (by omega)]; exact h2, ?_, by rw [rd_t (by omega)]; exact h4, by rw [rd_t (by omega)]; exact h5⟩
  intro j hj
  rw [rd_e]
  by_cases e : j = k
  · subst e; rw [pk_us, pk_us]
  · rw [pk_un e, pk_un e]; exact h3 j hj
theorem NMf_o {n : Nat} {B : Nat → Nat} {τ : St} {p a k : Nat} {v : Int32} (ha : a ≠ 40) (h : NMf n B τ p) : NMf n B (uI τ (a, 0, 0) k v) p := by
  have e : (uI τ (a, 0, 0) k v).1 (40, 0, 0) = τ.1 (40, 0, 0) := rd_t (fun q => ha q.symm)
  unfold NMf NM FM at *
  rw [e]
  exact h
theorem FM_o {τ : St} {ft pl a k : Nat} {v : Int32} (ha : a ≠ 40) (h : FM τ ft pl) : FM (uI τ (a, 0, 0) k v) ft pl := by
  have e : (uI τ (a, 0, 0) k v).1 (40, 0, 0) = τ.1 (40, 0, 0) := rd_t (fun q => ha q.symm)
  unfold FM at *
  rw [e]
  exact h
theorem J_rule {n : Nat} {B : Nat → Nat} {x m σ τ : St} {e r l k : Nat} {ru ce to : Nat → Int32} (hT : TXb n B x) (hTm : TMb n B m) (he : e ≤ n) (hk : rkR k) (hRG : RG ru) (hto : to k = 0) (hX : XS x σ n e r l ru ce to) (hM : MS m τ r ru ce to) (h9 : τ.1 (40, 0, 0) 9 = nI e) (h13 : τ.1 (40, 0, 0) 13 = 0) :
    (∃ ft pl σ' τ', F_X8_readRule (nI k) σ = some ((), σ') ∧ mLn (nI k) (uI τ (45, 0, 0) k 1) = some ((), τ') ∧ FX x σ' ft pl ∧ FM τ' ft pl ∧ KMf m τ') ∨
    (∃ q ru' σ' τ', q ≤ n ∧ e < q ∧ RG ru' ∧ F_X8_readRule (nI k) σ = some ((), σ') ∧ mLn (nI k) (uI τ (45, 0, 0) k 1) = mTl τ' ∧ XS x σ' n q r l ru' ce (upd to k 1) ∧ MS m τ' r ru' ce (upd to k 1) ∧ NMf n B τ' q) := by
  obtain ⟨hk9, r100, r101, lo1, hi99, low, high⟩ := rkR_t hk
  have hX1 := XS_to (k := k) hX
  have hM1 := MS_to (k := k) hM
  have pk0 : ¬ nI k < 0 := nI_pos (by omega)
  have pk9 : nI k < 9 := nI_lt (b := 9) hk9 (by omega)
  have n20 : ¬ nI k = 20 := by rw [i_eqr (by omega) (by decide)]; omega
  have s6 : σ.1 (6, 0, 0) k = 0 := by rw [hX.2.2.2.2.2.2.2.2 k hk9, hto]
  have eX : F_X8_readRule (nI k) σ = bd (F_X8_readValue (nI k) (nI (loT k)) (uI σ (6, 0, 0) k 1)) fun _ σ7 => (if nI k = (2 : Int32) then bd (F_X5_value 1 (2 : Int32) σ7) fun r10 σ9 => bd (F_X8_readValue (3 : Int32) r10 σ9) fun _ σ12 => some ((), σ12) else some ((), σ7)) := by
    rw [F_X8_readRule, if_neg pk0, if_pos pk9, inb_i (by omega) (by omega), ck_i, nI_clamp (by omega), s6, if_pos rfl, ck_i, nam_i, ck_i, nar1, r100]
  obtain ⟨τ2, f1, f2, f3⟩ := m_tok (p := e) (σ := uI τ (45, 0, 0) k 1) he (TM_K hTm hM1.1) (by rw [rd_t (by omega)]; exact h9) (by rw [rd_t (by omega)]; exact h13)
  have hM2 := MS_N hM1 f2
  rcases id f3 with hNM | ⟨nok, hFM⟩
  · have t13 : τ2.1 (40, 0, 0) 13 ≤ 0 := by rw [hNM.2.1]; decide
    have eM : mLn (nI k) (uI τ (45, 0, 0) k 1) = bd (F_X11_readNumber (nI (loT k)) (nI (hiT k)) τ2) fun r38 σ37 => ck (inb (nI k) 9) (nam (uI σ37 (44, 0, 0) k r38) fun σ41 => (if nI k = (2 : Int32) then ck (inb (2 : Int32) 9) (bd (F_X11_readNumber (σ41.1 (44, 0, 0) 2) (60 : Int32) σ41) fun r44 σ43 => ck (inb (3 : Int32) 9) (nam (uI σ43 (44, 0, 0) 3 r44) fun σ47 => mTl  σ47)) else mTl  σ41)) := by
      rw [mLn, f1, bd_i, if_pos t13, mBd, if_neg n20, low, bd_i, high, bd_i, nI_clamp (by omega)]
    rcases J_num (lo := loT k) hT hTm he hk9 (by omega) hX1 hM2 f3 r101 hi99 with ⟨ft, pl, σ', τ', v, a1, a2, a3, a4, a5⟩ | ⟨v, q, σ', τ', v1, v2, q1, q2, a1, a2, a3, a4, a5⟩
    · left
      have hft1 := a3.2.2.2.1
      have hft2 := a3.2.2.2.2.1
      rw [a1, bd_i] at eX
      rw [a2, bd_i, inb_i (by omega) (by omega), ck_i, nam_i] at eM
      have hF1 : FM (uI τ' (44, 0, 0) k v) ft pl := FM_o (by omega) a4
      by_cases k2 : nI k = 2
      · rw [if_pos k2, x_valueL (by omega), bd_i, x_readF a3, bd_i] at eX
        rw [if_pos k2, inb_l (by omega) (by omega), ck_i, m_numF hF1 hft1 hft2, bd_i, inb_l (by omega) (by omega), ck_i, nam_i] at eM
        have hF2 := FM_o (a := 44) (k := 3) (v := (uI τ' (44, 0, 0) k v).1 (40, 0, 0) 12) (by omega) hF1
        refine ⟨ft, pl, σ', _, eX, eM.trans (mTl_F hF2 hft1 hft2), a3, hF2, KMf_o (KMf_o a5 (by omega)) (by omega)⟩
      · rw [if_neg k2] at eX
        rw [if_neg k2] at eM
        exact ⟨ft, pl, σ', _, eX, eM.trans (mTl_F hF1 hft1 hft2), a3, hF1, KMf_o a5 (by omega)⟩
    · rw [a1, bd_i] at eX
      rw [a2, bd_i, inb_i (by omega) (by omega), ck_i, nam_i] at eM
      have hM3 := MS_ru (k := k) (v := nI v) a4
      have hN3 := NMf_o (a := 44) (k := k) (v := nI v) (by omega) a5
      by_cases k2 : k = 2
      · subst k2
        have e2 : nI 2 = (2 : Int32) := rfl
        have s2 : σ'.1 (4, 1, 0) 2 = nI v := by rw [a3.2.2.2.2.2.2.1 2 (by omega), pk_us]
        have m2 : (uI τ' (44, 0, 0) 2 (nI v)).1 (44, 0, 0) 2 = nI v := by rw [rd_e, pk_us]
        have hh : hiT 2 = 60 := rfl
        rw [if_pos e2, x_valueL (by omega), bd_i, s2] at eX
        rw [if_pos e2, inb_l (by omega) (by omega), ck_i, m2] at eM
        rcases J_num (k := 3) (lo := v) (hi := 60) hT hTm q1 (by omega) (by omega) a3 hM3 hN3 rfl (by omega) with ⟨ft, pl, σ2, τ3, w, b1, b2, b3, b4, b5⟩ | ⟨w, q', σ2, τ3, w1, w2, q1', q2', b1, b2, b3, b4, b5⟩
        · left
          have b1' : F_X8_readValue 3 (nI v) σ' = some ((), σ2) := b1
          have b2' : F_X11_readNumber (nI v) 60 (uI τ' (44, 0, 0) 2 (nI v)) = some (w, τ3) := b2
          rw [b1', bd_i] at eX
          rw [b2', bd_i, inb_l (by omega) (by omega), ck_i, nam_i] at eM
          have hF2 := FM_o (a := 44) (k := 3) (v := w) (by omega) b4
          exact ⟨ft, pl, σ2, _, eX, eM.trans (mTl_F hF2 b3.2.2.2.1 b3.2.2.2.2.1), b3, hF2, KMf_o b5 (by omega)⟩
        · right
          have b1' : F_X8_readValue 3 (nI v) σ' = some ((), σ2) := b1
          have b2' : F_X11_readNumber (nI v) 60 (uI τ' (44, 0, 0) 2 (nI v)) = some (nI w, τ3) := b2
          rw [b1', bd_i] at eX
          rw [b2', bd_i, inb_l (by omega) (by omega), ck_i, nam_i] at eM
          have hl : loT 2 = 1 := rfl
          exact ⟨q', _, σ2, _, q1', by omega, RG_23 hRG (by omega) w1 w2, eX, eM, b3, MS_ru (k := 3) (v := nI w) b4, NMf_o (by omega) b5⟩
      · right
        have k2' : ¬ nI k = 2 := by rw [i_eqr (by omega) (by decide)]; exact k2
        rw [if_neg k2'] at eX
        rw [if_neg k2'] at eM
        exact ⟨q, _, σ', _, q1, q2, RG_k hk k2 hRG v1 v2, eX, eM, a3, hM3, hN3⟩
  · left
    have t13 : ¬ τ2.1 (40, 0, 0) 13 ≤ 0 := by rw [hFM.1]; decide
    obtain ⟨σ', a1, a2⟩ := x_numF1 (a := nI k) (b := nI (loT k)) hT he hX1 nok
    refine ⟨1, tS n B e, σ', τ2, ?_, ?_, a2, hFM, hM2.1⟩
    · rw [eX, a1, bd_i]
      by_cases k2 : nI k = 2
      · rw [if_pos k2, x_valueL (by omega), bd_i, x_readF a2, bd_i]
      · rw [if_neg k2]
    · rw [mLn, f1, bd_i, if_neg t13]
