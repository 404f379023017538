/-! the text: all its lines -/
def xBd (KK : St → Option (Unit × St)) (σ1 : St) : Option (Unit × St) := bd (F_X8_isName 0 σ1) fun r6 σ5 => nam KK fun k8 => (if r6 = 0 then bd (F_X8_ruleNamed  σ5) fun r15 σ14 => bd (F_X8_readRule r15 σ14) fun _ σ17 => k8  σ17 else bd (F_X8_readRow  σ5) fun _ σ19 => k8  σ19)
theorem rlN_k {B : Nat → Nat} {s e : Nat} : rlN B s e = -4 ∨ ∃ k, rkR k ∧ rlN B s e = nI k := by
  unfold rlN rkR
  cases isX B s e 2 with
  | true => exact Or.inr ⟨0, by omega, rfl⟩
  | false =>
    cases isX B s e 3 with
    | true => exact Or.inr ⟨1, by omega, rfl⟩
    | false =>
      cases isX B s e 4 with
      | true => exact Or.inr ⟨2, by omega, rfl⟩
      | false =>
        cases isX B s e 5 with
        | true => exact Or.inr ⟨4, by omega, rfl⟩
        | false =>
          cases isX B s e 6 with
          | true => exact Or.inr ⟨5, by omega, rfl⟩
          | false =>
            cases isX B s e 7 with
            | true => exact Or.inr ⟨6, by omega, rfl⟩
            | false =>
              cases isX B s e 8 with
              | true => exact Or.inr ⟨7, by omega, rfl⟩
              | false =>
                cases isX B s e 9 with
                | true => exact Or.inr ⟨8, by omega, rfl⟩
                | false => exact Or.inl rfl
theorem nmN_r {B : Nat → Nat} {s e : Nat} : nmN B s e = if isX B s e 0 then 20 else rlN B s e := rfl
theorem x_refuse4 {x σ : St} {s ft : Nat} {n p r l : Nat} {ru ce to : Nat → Int32} (hX : XS x σ n p r l ru ce to) (h8 : σ.1 (2, 0, 0) 8 = nI s) (hs : s ≤ 320) (h1 : 1 ≤ ft) (h2 : ft ≤ 6) : F_X8_refuse (nI ft) (σ.1 (2, 0, 0) 8) σ = some ((), ftX σ ft s) ∧ FX x (ftX σ ft s) ft s := by
  rw [h8]
  exact ⟨x_refuse hX.2.2.2.2.2.1, FX_ft hX.1 h1 h2 hs⟩
theorem J_body {n : Nat} {B : Nat → Nat} {x m σ τ : St} {p r l : Nat} {ru ce to : Nat → Int32} (hT : TXb n B x) (hTm : TMb n B m) (hp : p ≤ n) (hs : tS n B p < n) (hr : r ≤ 8) (hRG : RG ru) (hce : c8 ce) (ht : t01 to) (hX : XS x σ n p r l ru ce to) (hM : MS m τ r ru ce to) (hN : NM n B τ p) :
    (∃ ft pl σ' τ', (∀ KK, xBd KK (tkX σ (tS n B p) (tK n B p) (tE n B p)) = KK σ') ∧ F_X11_readLine τ = some ((), τ') ∧ FX x σ' ft pl ∧ FM τ' ft pl ∧ KMf m τ') ∨
    (∃ q r' ru' ce' to' σ' τ', q ≤ n ∧ p < q ∧ r' ≤ 8 ∧ RG ru' ∧ c8 ce' ∧ t01 to' ∧ (∀ KK, xBd KK (tkX σ (tS n B p) (tK n B p) (tE n B p)) = KK σ') ∧ F_X11_readLine τ = mTl τ' ∧ XS x σ' n q r' l ru' ce' to' ∧ MS m τ' r' ru' ce' to' ∧ NMf n B τ' q) := by
  have hn := hT.1
  have hb := tS_b (B := B) hp
  have hE := tE_b (B := B) hp
  have hlt := hE.2.2 hs
  have hX1 : XS x (tkX σ (tS n B p) (tK n B p) (tE n B p)) n (tE n B p) r l ru ce to := XS_tk hX
  obtain ⟨ok, n13, n11, n10, n9, n12⟩ := id hN
  have hK3 : tK n B p ≤ 3 := kdB_b _
  have q7 : (tkX σ (tS n B p) (tK n B p) (tE n B p)).1 (2, 0, 0) 7 = nI (tK n B p) := tk_7
  have q8 : (tkX σ (tS n B p) (tK n B p) (tE n B p)).1 (2, 0, 0) 8 = nI (tS n B p) := tk_8
  generalize tkX σ (tS n B p) (tK n B p) (tE n B p) = σ1 at *
  have m4 : ¬ (-4 : Int32) < 0 → False := fun h => h (by decide)
  by_cases k1 : tK n B p = 1
  · have q7' : σ1.1 (2, 0, 0) 7 = 1 := by rw [q7, k1]; rfl
    have n11' : τ.1 (40, 0, 0) 11 = 1 := by rw [n11, k1]; rfl
    have hnm := m_name (TM_K hTm hM.1) n9 n10 hE.2.1 hE.1
    have hrow := x_isN (q := 0) hT hX1.1 hX1.2.1 hX1.2.2.1 q7' q8 hE.2.1 (by omega) (by omega) hE.1
    have hrl := x_rule1 hT hX1.1 hX1.2.1 hX1.2.2.1 q7' q8 hE.2.1 hlt
    rw [nmN_r] at hnm
    cases hi : isX B (tS n B p) (tE n B p) 0 with
    | true =>
      rw [hi] at hrow hnm
      simp only [↓reduceIte] at hrow hnm
      by_cases hr8 : r < 8
      · obtain ⟨τ2, f1, f2, f3⟩ := m_tok (p := tE n B p) hE.2.1 (TM_K hTm hM.1) n9 n13
        have hM2 := MS_N hM f2
        have eM := m_lineR n13 n11' hnm hM.2.1 hr8
        rcases id f3 with hNM | ⟨nok, hFM⟩
        · have t13 : τ2.1 (40, 0, 0) 13 ≤ 0 := by rw [hNM.2.1]; decide
          have eM2 : F_X11_readLine τ = bd (F_X11_readRow  τ2) fun _ σ49 => mTl  σ49 := by
            rw [eM, mLn, f1, bd_i, if_pos t13, mBd, if_pos rfl]
          rcases J_row hT hTm hE.2.1 hr8 hce hX1 hM2 f3 with ⟨ft, pl, σ', τ', a1, a2, a3, a4, a5⟩ | ⟨q, ce', σ', τ', q1, q2, q3, a1, a2, a3, a4, a5⟩
          · left
            refine ⟨ft, pl, σ', τ', fun KK => ?_, ?_, a3, a4, a5⟩
            · rw [xBd, hrow, bd_i, nam_i, if_neg (by decide), a1, bd_i]
            · rw [eM2, a2, bd_i, mTl_F a4 a3.2.2.2.1 a3.2.2.2.2.1]
          · right
            refine ⟨q, r + 1, ru, ce', to, σ', τ', q1, by omega, by omega, hRG, q3, ht, fun KK => ?_, ?_, a3, a4, a5⟩
            · rw [xBd, hrow, bd_i, nam_i, if_neg (by decide), a1, bd_i]
            · rw [eM2, a2, bd_i]
        · left
          have t13 : ¬ τ2.1 (40, 0, 0) 13 ≤ 0 := by rw [hFM.1]; decide
          obtain ⟨σ', a1, a2⟩ := x_rowF1 hT hE.2.1 hr8 hX1 nok
          refine ⟨1, _, σ', τ2, fun KK => ?_, ?_, a2, hFM, hM2.1⟩
          · rw [xBd, hrow, bd_i, nam_i, if_neg (by decide), a1, bd_i]
          · rw [eM, mLn, f1, bd_i, if_neg t13]
      · left
        obtain ⟨τ', f1, f2, f3⟩ := m_lineR8 n13 n11' n10 hnm hM.2.1 hr8 (by omega) hM.1
        obtain ⟨g1, g2⟩ := x_refuse4 (ft := 5) hX1 q8 (by omega) (by omega) (by omega)
        have g1' : F_X8_refuse 5 (σ1.1 (2, 0, 0) 8) σ1 = _ := g1
        have n0 : ¬ (ftX σ1 5 (tS n B p)).1 (2, 0, 0) 10 = 0 := by rw [g2.2.1]; decide
        refine ⟨5, tS n B p, ftX σ1 5 (tS n B p), τ', fun KK => ?_, f1, g2, f2, f3⟩
        have eR : F_X8_readRow σ1 = some ((), ftX σ1 5 (tS n B p)) := by
          rw [F_X8_readRow, nam_i, hX1.2.2.2.1, if_neg (show ¬ nI r < 8 by rw [i_ltr (by omega) (by decide)]; exact hr8), g1', bd_i]
          show bd _ _ = _
          rw [x_takeF g2, bd_i, if_neg n0]
        rw [xBd, hrow, bd_i, nam_i, if_neg (by decide), eR, bd_i]
    | false =>
      rw [hi] at hrow hnm
      simp only [Bool.false_eq_true, ↓reduceIte] at hrow hnm
      rcases rlN_k (B := B) (s := tS n B p) (e := tE n B p) with h4 | ⟨k, hk, hke⟩
      · left
        rw [h4] at hnm hrl
        obtain ⟨τ', f1, f2, f3⟩ := m_line4 n13 n10 (Or.inl ⟨n11', hnm⟩) hM.1
        obtain ⟨g1, g2⟩ := x_refuse4 (ft := 2) hX1 q8 (by omega) (by omega) (by omega)
        have g1' : F_X8_refuse 2 (σ1.1 (2, 0, 0) 8) σ1 = _ := g1
        refine ⟨2, tS n B p, ftX σ1 2 (tS n B p), τ', fun KK => ?_, f1, g2, f2, f3⟩
        have eR : F_X8_readRule (-4) σ1 = some ((), ftX σ1 2 (tS n B p)) := by
          rw [F_X8_readRule, if_pos (by decide), g1', bd_i]
        rw [xBd, hrow, bd_i, nam_i, if_pos rfl, hrl, bd_i, eR, bd_i]
      · rw [hke] at hnm hrl
        have hk9 := (rkR_t hk).1
        rcases ht k hk9 with h0 | h1
        · have eM := m_lineK hk9 n13 n11' hnm (by rw [hM.2.2.2.2 k hk9]; exact h0)
          rcases J_rule hT hTm hE.2.1 hk hRG h0 hX1 hM n9 n13 with ⟨ft, pl, σ', τ', a1, a2, a3, a4, a5⟩ | ⟨q, ru', σ', τ', q1, q2, q3, a1, a2, a3, a4, a5⟩
          · left
            refine ⟨ft, pl, σ', τ', fun KK => ?_, ?_, a3, a4, a5⟩
            · rw [xBd, hrow, bd_i, nam_i, if_pos rfl, hrl, bd_i, a1, bd_i]
            · rw [eM, a2]
          · right
            refine ⟨q, r, ru', ce, upd to k 1, σ', τ', q1, by omega, hr, q3, hce, t01_u ht, fun KK => ?_, ?_, a3, a4, a5⟩
            · rw [xBd, hrow, bd_i, nam_i, if_pos rfl, hrl, bd_i, a1, bd_i]
            · rw [eM, a2]
        · left
          obtain ⟨τ', f1, f2, f3⟩ := m_lineK4 hk9 n13 n11' n10 hnm (by rw [hM.2.2.2.2 k hk9]; exact h1) hM.1
          obtain ⟨g1, g2⟩ := x_refuse4 (ft := 4) hX1 q8 (by omega) (by omega) (by omega)
          have g1' : F_X8_refuse 4 (σ1.1 (2, 0, 0) 8) σ1 = _ := g1
          have s6 : ¬ σ1.1 (6, 0, 0) k = 0 := by rw [hX1.2.2.2.2.2.2.2.2 k hk9, h1]; decide
          refine ⟨4, tS n B p, ftX σ1 4 (tS n B p), τ', fun KK => ?_, f1, g2, f2, f3⟩
          have eR : F_X8_readRule (nI k) σ1 = some ((), ftX σ1 4 (tS n B p)) := by
            rw [F_X8_readRule, if_neg (nI_pos (by omega)), if_pos (show nI k < 9 from nI_lt (b := 9) hk9 (by omega)), inb_i (by omega) (by omega), ck_i, nI_clamp (by omega), if_neg s6, g1', bd_i]
          rw [xBd, hrow, bd_i, nam_i, if_pos rfl, hrl, bd_i, eR, bd_i]
  · left
    have q7' : ¬ σ1.1 (2, 0, 0) 7 = 1 := by rw [q7, i_eqr (by omega) (by decide)]; exact k1
    have n11' : ¬ τ.1 (40, 0, 0) 11 = 1 := by rw [n11, i_eqr (by omega) (by decide)]; exact k1
    obtain ⟨τ', f1, f2, f3⟩ := m_line4 n13 n10 (Or.inr n11') hM.1
    obtain ⟨g1, g2⟩ := x_refuse4 (ft := 2) hX1 q8 (by omega) (by omega) (by omega)
    have g1' : F_X8_refuse 2 (σ1.1 (2, 0, 0) 8) σ1 = _ := g1
    refine ⟨2, tS n B p, ftX σ1 2 (tS n B p), τ', fun KK => ?_, f1, g2, f2, f3⟩
    have eR : F_X8_readRule (-4) σ1 = some ((), ftX σ1 2 (tS n B p)) := by
      rw [F_X8_readRule, if_pos (by decide), g1', bd_i]
    rw [xBd, x_isN0 q7', bd_i, nam_i, if_pos rfl, x_rule0 q7', bd_i, eR, bd_i]
theorem FX_9 {x σ : St} {ft pl : Nat} {v : Int32} (h : FX x σ ft pl) : FX x (uI σ (2, 0, 0) 9 v) ft pl := by
  obtain ⟨h1, h2, h3, h4⟩ := h
  exact ⟨K_2 h1, by rw [rd_e, pk_un (by omega)]; exact h2, by rw [rd_e, pk_un (by omega)]; exact h3, h4⟩
/-- all lines on both sides -/
theorem J_all {n : Nat} {B : Nat → Nat} {x m : St} (hT : TXb n B x) (hTm : TMb n B m) (ka kb : St → Option (Unit × St)) (km : Int32 → St → Option (Int32 × St)) : ∀ (d p i l r fu fm : Nat) (ru ce to : Nat → Int32) (σ τ : St), n - p < d → p ≤ n → i ≤ p → d + 2 < fu → d + 2 < fm → r ≤ 8 → RG ru → c8 ce → t01 to → XS x σ n p r l ru ce to → MS m τ r ru ce to → NMf n B τ p →
    (∃ ft pl σ' τ' y, L_X8_readAll_7 fu (nI i) σ ka kb = kb σ' ∧ L_X11_text_20 fm (nI l) τ km = km y τ' ∧ FX x σ' ft pl ∧ FM τ' ft pl ∧ KMf m τ') ∨
    (∃ l' p' r' ru' ce' to' σ' τ', RG ru' ∧ c8 ce' ∧ L_X8_readAll_7 fu (nI i) σ ka kb = ka σ' ∧ L_X11_text_20 fm (nI l) τ km = km (nI l') τ' ∧ XS x σ' n p' r' l' ru' ce' to' ∧ MS m τ' r' ru' ce' to' ∧ τ'.1 (40, 0, 0) 13 = 0 ∧ τ'.1 (40, 0, 0) 10 = nI n) := by
  have hn := hT.1
  intro d
  induction d with
  | zero =>
    intro p i l r fu fm ru ce to σ τ hd
    omega
  | succ d ih =>
    intro p i l r fu fm ru ce to σ τ hd hp hi hfu hfm hr hRG hce ht hX hM hN
    obtain ⟨f, rfl⟩ : ∃ f, fu = f + 1 + 1 := ⟨fu - 2, by omega⟩
    obtain ⟨g, rfl⟩ : ∃ g, fm = g + 1 + 1 := ⟨fm - 2, by omega⟩
    have hb := tS_b (B := B) hp
    have hE := tE_b (B := B) hp
    have hK3 : tK n B p ≤ 3 := kdB_b _
    obtain ⟨h1, h2, h3, h4, h5, h6, h7, h8, h9⟩ := id hX
    have z : ¬ nI n < nI i := nI_nlt (by omega) (by omega)
    have dead : ∀ (f i : Nat) (σ' : St) (ft pl : Nat), FX x σ' ft pl → L_X8_readAll_7 (f + 1) (nI i) σ' ka kb = kb σ' := by
      intro f i σ' ft pl hF
      have n0 : ¬ σ'.1 (2, 0, 0) 10 = 0 := by rw [hF.2.1]; exact nI_ne0 hF.2.2.2.1 (by have := hF.2.2.2.2.1; omega)
      rw [L_X8_readAll_7.eq_2]
      by_cases q : σ'.1 (2, 0, 0) 4 < nI i
      · rw [if_pos q]
      · rw [if_neg q, if_neg n0]
    have deadM : ∀ (g : Nat) (y : Int32) (τ' : St) (ft pl : Nat), FM τ' ft pl → 1 ≤ ft → ft ≤ 6 → L_X11_text_20 (g + 1) y τ' km = km y τ' := by
      intro g y τ' ft pl hF q1 q2
      rw [L_X11_text_20.eq_2, if_neg (FM_n0 hF q1 q2)]
    rcases x_tok hp h1 hT h2 h3 h6 with ⟨ok, e1⟩ | ⟨nok, σ', e1, hF⟩
    · rcases hN with hN | ⟨nok, _⟩
      · obtain ⟨_, n13, n11, n10, n9, n12⟩ := id hN
        have t10 : (tkX σ (tS n B p) (tK n B p) (tE n B p)).1 (2, 0, 0) 10 = 0 := (XS_tk hX).2.2.2.2.2.1
        by_cases k0 : tK n B p = 0
        · right
          have hs : tS n B p = n := by
            rcases Nat.lt_or_ge (tS n B p) n with q | q
            · exact absurd k0 (ok q).1
            · omega
          refine ⟨l, tE n B p, r, ru, ce, to, tkX σ (tS n B p) (tK n B p) (tE n B p), τ, hRG, hce, ?_, ?_, XS_tk hX, hM, n13, by rw [n10, hs]⟩
          · rw [L_X8_readAll_7.eq_2, h2, if_neg z, if_pos h6, e1, bd_i, if_pos t10, tk_7, if_pos (by rw [k0]; rfl)]
          · rw [L_X11_text_20.eq_2, if_pos n13, n11, if_pos (by rw [k0]; rfl)]
        · have hs : tS n B p < n := by
            rcases Nat.lt_or_ge (tS n B p) n with q | q
            · exact q
            · exfalso
              apply k0
              have : tK n B p = kdB (bt n B (tS n B p)) := rfl
              rw [this, show bt n B (tS n B p) = 0 from if_neg (by omega)]
              rfl
          have k0' : ¬ nI (tK n B p) = 0 := nI_ne0 (by omega) (by omega)
          have eX : L_X8_readAll_7 (f + 1 + 1) (nI i) σ ka kb = xBd (fun  (σ9 : St) => bd (F_X8_take (3 : Int32) σ9) fun _ σ10 => nam (uI σ10 (2, 0, 0) 9 ((σ10.1 (2, 0, 0) 9) + (1 : Int32))) fun σ12 => nam (nI i + (1 : Int32)) fun x13 => L_X8_readAll_7 (f + 1) x13 σ12 ka kb) (tkX σ (tS n B p) (tK n B p) (tE n B p)) := by
            rw [L_X8_readAll_7.eq_2, h2, if_neg z, if_pos h6, e1, bd_i, if_pos t10, tk_7, if_neg k0']
            rfl
          have eM : L_X11_text_20 (g + 1 + 1) (nI l) τ km = bd (F_X11_readLine  τ) fun _ σ7 => L_X11_text_20 (g + 1) (nI (l + 1)) σ7 km := by
            rw [L_X11_text_20.eq_2, if_pos n13, n11, if_neg k0', i_al]
            rfl
          rcases J_body hT hTm hp hs hr hRG hce ht hX hM hN with ⟨ft, pl, σ', τ', a1, a2, a3, a4, a5⟩ | ⟨q, r', ru', ce', to', σ', τ', q1, q2, q3, q4, q5, q6, a1, a2, a3, a4, a5⟩
          · left
            refine ⟨ft, pl, uI σ' (2, 0, 0) 9 ((σ'.1 (2, 0, 0) 9) + (1 : Int32)), τ', nI (l + 1), ?_, ?_, FX_9 a3, a4, a5⟩
            · rw [eX, a1, x_takeF a3, bd_i, nam_i, nam_i, i_al, dead _ _ _ _ _ (FX_9 a3)]
            · rw [eM, a2, bd_i, deadM _ _ _ _ _ a4 a3.2.2.2.1 a3.2.2.2.2.1]
          · rw [a2] at eM
            rcases J_semi hT hTm q1 a3 a4 a5 with ⟨ft, pl, σ2, τ2, b1, b2, b3, b4, b5⟩ | ⟨q', σ2, τ2, p1, p2, b1, b2, b3, b4, b5⟩
            · left
              refine ⟨ft, pl, uI σ2 (2, 0, 0) 9 ((σ2.1 (2, 0, 0) 9) + (1 : Int32)), τ2, nI (l + 1), ?_, ?_, FX_9 b3, b4, b5⟩
              · rw [eX, a1, b1, bd_i, nam_i, nam_i, i_al, dead _ _ _ _ _ (FX_9 b3)]
              · rw [eM, b2, bd_i, deadM _ _ _ _ _ b4 b3.2.2.2.1 b3.2.2.2.2.1]
            · have hX2 : XS x (uI σ2 (2, 0, 0) 9 (nI (l + 1))) n q' r' (l + 1) ru' ce' to' := by
                obtain ⟨d1, d2, d3, d4, d5, d6, d7, d8, d9⟩ := b3
                refine ⟨K_2 d1, by rw [rd_e, pk_un (by omega)]; exact d2, by rw [rd_e, pk_un (by omega)]; exact d3, by rw [rd_e, pk_un (by omega)]; exact d4, by rw [rd_e, pk_us], by rw [rd_e, pk_un (by omega)]; exact d6, by rw [rd_t (by omega)]; exact d7, by rw [rd_t (by omega)]; exact d8, by rw [rd_t (by omega)]; exact d9⟩
              have l9 : σ2.1 (2, 0, 0) 9 = nI l := b3.2.2.2.2.1
              have IH := ih q' (i + 1) (l + 1) r' (f + 1) (g + 1) ru' ce' to' _ τ2 (by omega) p1 (by omega) (by omega) (by omega) q3 q4 q5 q6 hX2 b4 b5
              have eX2 : L_X8_readAll_7 (f + 1 + 1) (nI i) σ ka kb = L_X8_readAll_7 (f + 1) (nI (i + 1)) (uI σ2 (2, 0, 0) 9 (nI (l + 1))) ka kb := by
                rw [eX, a1, b1, bd_i, nam_i, nam_i, i_al, l9, i_al]
              have eM2 : L_X11_text_20 (g + 1 + 1) (nI l) τ km = L_X11_text_20 (g + 1) (nI (l + 1)) τ2 km := by
                rw [eM, b2, bd_i]
              rw [eX2, eM2]
              exact IH
      · exact absurd ok nok
    · rcases hN with hN | ⟨_, hFM⟩
      · exact absurd hN.1 nok
      · left
        have n0 : ¬ σ'.1 (2, 0, 0) 10 = 0 := by rw [hF.2.1]; decide
        refine ⟨1, tS n B p, σ', τ, nI l, ?_, ?_, hF, hFM, hM.1⟩
        · rw [L_X8_readAll_7.eq_2, h2, if_neg z, if_pos h6, e1, bd_i, if_neg n0]
        · exact deadM _ _ _ _ _ hFM (by omega) (by omega)
