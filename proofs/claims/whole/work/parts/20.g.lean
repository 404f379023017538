/-! the text: a line -/
def mTl (σ19 : St) : Option (Unit × St) := nam (fun  (σ21 : St) => bd (F_X11_next  σ21) fun _ σ22 => some ((), σ22)) fun k20 => (if (σ19.1 (40, 0, 0) 13) = 0 then nam (fun (y24 : Int32) (σ26 : St) => bd (F_X11_needs y24 (2 : Int32) σ26) fun _ σ27 => k20  σ27) fun k25 => (if (σ19.1 (40, 0, 0) 11) = (3 : Int32) then k25 (1 : Int32) σ19 else k25 (0 : Int32) σ19) else k20  σ19)
theorem mTl_F {τ : St} {ft pl : Nat} (h : FM τ ft pl) (h1 : 1 ≤ ft) (h2 : ft ≤ 6) : mTl τ = some ((), τ) := by
  have n0 := FM_n0 h h1 h2
  simp only [mTl, nam_i, n0, ↓reduceIte, m_nextF h h1 h2, bd_i]
section LN
variable {n : Nat} {B : Nat → Nat} {x m σ τ : St} {p r l : Nat} {ru ce to : Nat → Int32}
/-- the end of a line on both sides -/
theorem J_semi (hT : TXb n B x) (hTm : TMb n B m) (hp : p ≤ n) (hX : XS x σ n p r l ru ce to) (hM : MS m τ r ru ce to) (hN : NMf n B τ p) :
    (∃ ft pl σ' τ', F_X8_take 3 σ = some ((), σ') ∧ mTl τ = some ((), τ') ∧ FX x σ' ft pl ∧ FM τ' ft pl ∧ KMf m τ') ∨
    (∃ q σ' τ', q ≤ n ∧ p ≤ q ∧ F_X8_take 3 σ = some ((), σ') ∧ mTl τ = some ((), τ') ∧ XS x σ' n q r l ru ce to ∧ MS m τ' r ru ce to ∧ NMf n B τ' q) := by
  have hn := hT.1
  have hb := tS_b (B := B) hp
  have hE := tE_b (B := B) hp
  rcases x_take' (w := 3) hT hp (by omega) hX with ⟨ok, hK, e1, hX'⟩ | ⟨ok, hK, σ', e1, hF⟩ | ⟨ok, σ', e1, hF⟩
  · rcases hN with ⟨_, n13, n11, n10, n9, n12⟩ | ⟨nok, _⟩
    · right
      have k3 : nI (tK n B p) = 3 := by rw [hK]; rfl
      obtain ⟨τ', f1, f2, f3⟩ := m_tok (p := tE n B p) hE.2.1 (TM_K hTm hM.1) n9 n13
      refine ⟨tE n B p, _, τ', hE.2.1, by omega, e1, ?_, hX', MS_N hM f2, f3⟩
      simp only [mTl, nam_i, n13, n11, k3, ↓reduceIte, m_needs1 (show ¬ (1 : Int32) = 0 by decide), bd_i, f1]
    · exact absurd ok nok
  · left
    rcases hN with ⟨_, n13, n11, n10, n9, n12⟩ | ⟨nok, _⟩
    · have hK3 : tK n B p ≤ 3 := kdB_b _
      have k3 : ¬ nI (tK n B p) = 3 := by rw [i_eqr (by omega) (by decide)]; exact hK
      have hN0 : NXf τ (uI (uI τ (40, 0, 0) 13 2) (40, 0, 0) 14 (τ.1 (40, 0, 0) 10)) := NXf_u (by omega) (by omega) (NXf_u (by omega) (by omega) NXf_rfl)
      have hFM : FM (uI (uI τ (40, 0, 0) 13 2) (40, 0, 0) 14 (τ.1 (40, 0, 0) 10)) 2 (tS n B p) := by
        refine ⟨?_, ?_⟩
        · simp (disch := omega) only [rd_e, pk_un, pk_us]; rfl
        · rw [rd_e, pk_us, n10]
      refine ⟨2, tS n B p, σ', uI (uI τ (40, 0, 0) 13 2) (40, 0, 0) 14 (τ.1 (40, 0, 0) 10), e1, ?_, hF, hFM, KMf_N hM.1 hN0⟩
      simp only [mTl, nam_i, n13, n11, k3, ↓reduceIte, m_needs0 n13, bd_i, m_nextF hFM (show 1 ≤ 2 by omega) (show 2 ≤ 6 by omega)]
    · exact absurd ok nok
  · left
    rcases hN with hN | ⟨nok, hFM⟩
    · exact absurd hN.1 ok
    · exact ⟨1, tS n B p, σ', τ, e1, mTl_F hFM (by omega) (by omega), hF, hFM, hM.1⟩
theorem x_rowF1 (hT : TXb n B x) (hp : p ≤ n) (hr : r < 8) (hX : XS x σ n p r l ru ce to) (ok : ¬ tOk n B p) : ∃ σ', F_X8_readRow σ = some ((), σ') ∧ FX x σ' 1 (tS n B p) := by
  have h6 : σ.1 (2, 0, 0) 6 = nI r := hX.2.2.2.1
  rcases x_take' (w := 1) hT hp (by omega) hX with ⟨o, _⟩ | ⟨o, _⟩ | ⟨_, σ', e1, hF⟩
  · exact absurd o ok
  · exact absurd o ok
  · have n0 : ¬ σ'.1 (2, 0, 0) 10 = 0 := by rw [hF.2.1]; exact nI_ne0 hF.2.2.2.1 (by omega)
    have e1' : F_X8_take 1 σ = _ := e1
    refine ⟨σ', ?_, hF⟩
    rw [F_X8_readRow, nam_i, h6, if_pos (show nI r < 8 from nI_lt (b := 8) (by omega) (by omega))]
    show bd _ _ = _
    rw [e1', bd_i, if_neg n0]
theorem x_numF1 {a b : Int32} (hT : TXb n B x) (hp : p ≤ n) (hX : XS x σ n p r l ru ce to) (ok : ¬ tOk n B p) : ∃ σ', F_X8_readValue a b σ = some ((), σ') ∧ FX x σ' 1 (tS n B p) := by
  rcases x_take' (w := 2) hT hp (by omega) hX with ⟨o, _⟩ | ⟨o, _⟩ | ⟨_, σ', e1, hF⟩
  · exact absurd o ok
  · exact absurd o ok
  · have n0 : ¬ σ'.1 (2, 0, 0) 10 = 0 := by rw [hF.2.1]; exact nI_ne0 hF.2.2.2.1 (by omega)
    have e1' : F_X8_take 2 σ = _ := e1
    refine ⟨σ', ?_, hF⟩
    rw [F_X8_readValue, e1', bd_i, if_neg n0]
/-- the model's line past the name -/
def mBd (y1 : Int32) (σ16 : St) : Option (Unit × St) := (if y1 = (20 : Int32) then bd (F_X11_readRow  σ16) fun _ σ49 => mTl  σ49 else bd (F_X11_lowest y1 σ16) fun r32 σ31 => bd (F_X11_highest y1 σ31) fun r35 σ34 => bd (F_X11_readNumber r32 r35 σ34) fun r38 σ37 => ck (inb y1 9) (nam (uI σ37 (44, 0, 0) (y1.toNatClampNeg) r38) fun σ41 => (if y1 = (2 : Int32) then ck (inb (2 : Int32) 9) (bd (F_X11_readNumber (σ41.1 (44, 0, 0) 2) (60 : Int32) σ41) fun r44 σ43 => ck (inb (3 : Int32) 9) (nam (uI σ43 (44, 0, 0) 3 r44) fun σ47 => mTl  σ47)) else mTl  σ41)))
def mLn (y1 : Int32) (σ15 : St) : Option (Unit × St) := bd (F_X11_next  σ15) fun _ σ16 => (if (σ16.1 (40, 0, 0) 13) ≤ 0 then mBd y1 σ16 else some ((), σ16))
theorem line_u (τ : St) : F_X11_readLine τ = nam (fun (y1 : Int32) (σ3 : St) => nam (fun (y4 : Int32) (σ6 : St) => bd (F_X11_needs y4 (2 : Int32) σ6) fun _ σ7 => nam (fun (y9 : Int32) (σ11 : St) => bd (F_X11_needs y9 (5 : Int32) σ11) fun _ σ12 => (if (σ12.1 (40, 0, 0) 13) = 0 then (if y1 = (20 : Int32) then mLn y1  σ12 else ck (inb y1 9) (nam (fun (y54 : Int32) (σ56 : St) => bd (F_X11_needs y54 (4 : Int32) σ56) fun _ σ57 => ck (inb y1 9) (nam (uI σ57 (45, 0, 0) (y1.toNatClampNeg) (vp_nar .boolean (1 : Int32))) fun σ60 => mLn y1  σ60)) fun k55 => (if (σ12.1 (45, 0, 0) (y1.toNatClampNeg)) = 0 then k55 (1 : Int32) σ12 else k55 (0 : Int32) σ12))) else mLn y1  σ12)) fun k10 => (if y1 = (20 : Int32) then (if (8 : Int32) ≤ (σ7.1 (40, 0, 0) 5) then k10 (0 : Int32) σ7 else k10 (1 : Int32) σ7) else k10 (1 : Int32) σ7)) fun k5 => (if y1 = (-4 : Int32) then k5 (0 : Int32) σ3 else k5 (1 : Int32) σ3)) fun k2 => (if (τ.1 (40, 0, 0) 11) = (1 : Int32) then bd (F_X11_nameNow  τ) fun r68 σ67 => k2 r68 σ67 else k2 (-4 : Int32) τ) := rfl
theorem mLn_F {y1 : Int32} {τ : St} {ft pl : Nat} (h : FM τ ft pl) (h1 : 1 ≤ ft) (h2 : ft ≤ 6) : mLn y1 τ = some ((), τ) := by
  have n0 : ¬ τ.1 (40, 0, 0) 13 ≤ 0 := by rw [h.1]; exact nI_nle h1 (by omega)
  rw [mLn, m_nextF h h1 h2, bd_i, if_neg n0]
theorem m_line4 (h13 : τ.1 (40, 0, 0) 13 = 0) {s : Nat} (h10 : τ.1 (40, 0, 0) 10 = nI s) (hy : (τ.1 (40, 0, 0) 11 = 1 ∧ F_X11_nameNow τ = some (-4, τ)) ∨ ¬ τ.1 (40, 0, 0) 11 = 1) (hK : KMf m τ) : ∃ τ', F_X11_readLine τ = some ((), τ') ∧ FM τ' 2 s ∧ KMf m τ' := by
  have hFM : FM (uI (uI τ (40, 0, 0) 13 2) (40, 0, 0) 14 (τ.1 (40, 0, 0) 10)) 2 s := by
    refine ⟨?_, ?_⟩
    · simp (disch := omega) only [rd_e, pk_un, pk_us]; rfl
    · rw [rd_e, pk_us, h10]
  have hN0 : NXf τ (uI (uI τ (40, 0, 0) 13 2) (40, 0, 0) 14 (τ.1 (40, 0, 0) 10)) := NXf_u (by omega) (by omega) (NXf_u (by omega) (by omega) NXf_rfl)
  have f0 := FM_n0 hFM (by omega) (by omega)
  have n20 : ¬ (-4 : Int32) = 20 := by decide
  refine ⟨_, ?_, hFM, KMf_N hK hN0⟩
  rw [line_u]
  rcases hy with ⟨y1, y2⟩ | y1
  · simp only [nam_i, y1, ↓reduceIte, y2, bd_i, m_needs0 h13, n20, m_needs1 (show ¬ (1 : Int32) = 0 by decide), f0, mLn_F hFM (show 1 ≤ 2 by omega) (show 2 ≤ 6 by omega)]
  · simp only [nam_i, y1, ↓reduceIte, bd_i, m_needs0 h13, n20, m_needs1 (show ¬ (1 : Int32) = 0 by decide), f0, mLn_F hFM (show 1 ≤ 2 by omega) (show 2 ≤ 6 by omega)]
theorem m_lineR (h13 : τ.1 (40, 0, 0) 13 = 0) (h11 : τ.1 (40, 0, 0) 11 = 1) (hy : F_X11_nameNow τ = some (20, τ)) (h5 : τ.1 (40, 0, 0) 5 = nI r) (hr : r < 8) : F_X11_readLine τ = mLn 20 τ := by
  have n4 : ¬ (20 : Int32) = -4 := by decide
  have n8 : ¬ (8 : Int32) ≤ nI r := by rw [i_lel (by decide) (by omega)]; omega
  rw [line_u]
  simp only [nam_i, h11, ↓reduceIte, hy, bd_i, n4, m_needs1 (show ¬ (1 : Int32) = 0 by decide), h5, n8, h13]
theorem m_lineR8 (h13 : τ.1 (40, 0, 0) 13 = 0) (h11 : τ.1 (40, 0, 0) 11 = 1) {s : Nat} (h10 : τ.1 (40, 0, 0) 10 = nI s) (hy : F_X11_nameNow τ = some (20, τ)) (h5 : τ.1 (40, 0, 0) 5 = nI r) (hr : ¬ r < 8) (hr9 : r < 100) (hK : KMf m τ) : ∃ τ', F_X11_readLine τ = some ((), τ') ∧ FM τ' 5 s ∧ KMf m τ' := by
  have hFM : FM (uI (uI τ (40, 0, 0) 13 5) (40, 0, 0) 14 (τ.1 (40, 0, 0) 10)) 5 s := by
    refine ⟨?_, ?_⟩
    · simp (disch := omega) only [rd_e, pk_un, pk_us]; rfl
    · rw [rd_e, pk_us, h10]
  have hN0 : NXf τ (uI (uI τ (40, 0, 0) 13 5) (40, 0, 0) 14 (τ.1 (40, 0, 0) 10)) := NXf_u (by omega) (by omega) (NXf_u (by omega) (by omega) NXf_rfl)
  have f0 := FM_n0 hFM (by omega) (by omega)
  have n4 : ¬ (20 : Int32) = -4 := by decide
  have n8 : (8 : Int32) ≤ nI r := by rw [i_lel (by decide) (by omega)]; omega
  refine ⟨_, ?_, hFM, KMf_N hK hN0⟩
  rw [line_u]
  simp only [nam_i, h11, ↓reduceIte, hy, bd_i, n4, m_needs1 (show ¬ (1 : Int32) = 0 by decide), h5, n8, m_needs0 h13, f0, mLn_F hFM (show 1 ≤ 5 by omega) (show 5 ≤ 6 by omega)]
theorem m_lineK {k : Nat} (hk : k < 9) (h13 : τ.1 (40, 0, 0) 13 = 0) (h11 : τ.1 (40, 0, 0) 11 = 1) (hy : F_X11_nameNow τ = some (nI k, τ)) (hto : τ.1 (45, 0, 0) k = 0) : F_X11_readLine τ = mLn (nI k) (uI τ (45, 0, 0) k 1) := by
  have n4 : ¬ nI k = -4 := by rw [i_nm4 (by omega)]; exact not_false
  have n20 : ¬ nI k = 20 := by rw [i_eqr (by omega) (by decide)]; omega
  rw [line_u]
  simp (disch := omega) only [nam_i, h11, ↓reduceIte, hy, bd_i, n4, m_needs1 (show ¬ (1 : Int32) = 0 by decide), n20, h13, inb_i, ck_i, nI_clamp, hto, nar1]
theorem m_lineK4 {k : Nat} (hk : k < 9) (h13 : τ.1 (40, 0, 0) 13 = 0) (h11 : τ.1 (40, 0, 0) 11 = 1) {s : Nat} (h10 : τ.1 (40, 0, 0) 10 = nI s) (hy : F_X11_nameNow τ = some (nI k, τ)) (hto : τ.1 (45, 0, 0) k = 1) (hK : KMf m τ) : ∃ τ', F_X11_readLine τ = some ((), τ') ∧ FM τ' 4 s ∧ KMf m τ' := by
  have n4 : ¬ nI k = -4 := by rw [i_nm4 (by omega)]; exact not_false
  have n20 : ¬ nI k = 20 := by rw [i_eqr (by omega) (by decide)]; omega
  have hFM : FM (uI (uI (uI τ (40, 0, 0) 13 4) (40, 0, 0) 14 (τ.1 (40, 0, 0) 10)) (45, 0, 0) k 1) 4 s := by
    refine ⟨?_, ?_⟩
    · simp (disch := omega) only [rd_t, rd_e, pk_un, pk_us]; rfl
    · rw [rd_t (by omega), rd_e, pk_us, h10]
  have hN0 : NXf τ (uI (uI τ (40, 0, 0) 13 4) (40, 0, 0) 14 (τ.1 (40, 0, 0) 10)) := NXf_u (by omega) (by omega) (NXf_u (by omega) (by omega) NXf_rfl)
  refine ⟨_, ?_, hFM, KMf_o (KMf_N hK hN0) (by omega)⟩
  rw [line_u]
  simp (disch := omega) only [nam_i, h11, ↓reduceIte, hy, bd_i, n4, m_needs1 (show ¬ (1 : Int32) = 0 by decide), n20, h13, inb_i, ck_i, nI_clamp, hto, ft10, m_needs0 h13, nar1, mLn_F hFM (show 1 ≤ 4 by omega) (show 4 ≤ 6 by omega)]
end LN
