/-! the text: numbers -/
/-- the class reads: the place, rows, lines, rules, cells, which are told -/
def XS (x σ : St) (n p r l : Nat) (ru ce to : Nat → Int32) : Prop := KX x σ ∧ σ.1 (2, 0, 0) 4 = nI n ∧ σ.1 (2, 0, 0) 5 = nI p ∧ σ.1 (2, 0, 0) 6 = nI r ∧ σ.1 (2, 0, 0) 9 = nI l ∧ σ.1 (2, 0, 0) 10 = 0 ∧ (∀ k, k < 9 → σ.1 (4, 1, 0) k = ru k) ∧ (∀ j, j < 96 → σ.1 (5, 0, 0) j = ce j) ∧ (∀ k, k < 9 → σ.1 (6, 0, 0) k = to k)
def KMf (m σ : St) : Prop := ∀ (d : Id3) (k : Nat), ((eM d k ∧ ¬ (d = (40, 0, 0) ∧ k = 13)) ∨ d.1 < 40) → σ.1 d k = m.1 d k
def MS (m σ : St) (r : Nat) (ru ce to : Nat → Int32) : Prop := KMf m σ ∧ σ.1 (40, 0, 0) 5 = nI r ∧ (∀ k, k < 9 → σ.1 (44, 0, 0) k = ru k) ∧ (∀ j, j < 96 → σ.1 (46, 0, 0) j = ce j) ∧ (∀ k, k < 9 → σ.1 (45, 0, 0) k = to k)
def NMf (n : Nat) (B : Nat → Nat) (σ : St) (p : Nat) : Prop := NM n B σ p ∨ (¬ tOk n B p ∧ FM σ 1 (tS n B p))
theorem KMf_N {m σ σ' : St} (h : KMf m σ) (hN : NXf σ σ') : KMf m σ' := by
  intro d k hd
  rw [← h d k hd]
  by_cases e : d = (40, 0, 0)
  · subst e
    rcases hd with ⟨q, q2⟩ | q
    · rcases q with ⟨_, q⟩ | q | q | q | q | q
      · exact hN.2 k (by
          rcases q with q | q | q | q
          · omega
          · exact absurd ⟨rfl, q⟩ q2
          · omega
          · omega)
      · have := (Prod.mk.inj q).1; omega
      · have := (Prod.mk.inj q).1; omega
      · have := (Prod.mk.inj q).1; omega
      · have := (Prod.mk.inj q).1; omega
      · have q' : 51 ≤ 40 ∧ 40 ≤ 54 := q; omega
    · have q' : 40 < 40 := q; omega
  · rw [hN.1 d e]
theorem KMf_o {m σ : St} {a b c k : Nat} {v : Int32} (h : KMf m σ) (ha : 44 ≤ a ∧ a ≤ 46) : KMf m (uI σ (a, b, c) k v) := by
  intro d j hd
  rw [← h d j hd, uI_ne]
  rintro rfl
  rcases hd with ⟨q, q2⟩ | q
  · rcases q with ⟨q, _⟩ | q | q | q | q | q
    · have := (Prod.mk.inj q).1; omega
    · have := (Prod.mk.inj q).1; omega
    · have := (Prod.mk.inj q).1; omega
    · have := (Prod.mk.inj q).1; omega
    · have := (Prod.mk.inj q).1; omega
    · have q' : 51 ≤ a ∧ a ≤ 54 := q; omega
  · have q' : a < 40 := q; omega
theorem KMf_5 {m σ : St} {v : Int32} (h : KMf m σ) : KMf m (uI σ (40, 0, 0) 5 v) := by
  intro d j hd
  rw [← h d j hd]
  by_cases e : d = (40, 0, 0)
  · subst e
    rw [rd_e, pk_un]
    rintro rfl
    rcases hd with ⟨q, q2⟩ | q
    · rcases q with ⟨_, q⟩ | q | q | q | q | q
      · omega
      · have := (Prod.mk.inj q).1; omega
      · have := (Prod.mk.inj q).1; omega
      · have := (Prod.mk.inj q).1; omega
      · have := (Prod.mk.inj q).1; omega
      · have q' : 51 ≤ 40 ∧ 40 ≤ 54 := q; omega
    · have q' : 40 < 40 := q; omega
  · rw [uI_ne e]
theorem MS_N {m σ σ' : St} {r : Nat} {ru ce to : Nat → Int32} (h : MS m σ r ru ce to) (hN : NXf σ σ') : MS m σ' r ru ce to := by
  obtain ⟨h1, h2, h3, h4, h5⟩ := h
  refine ⟨KMf_N h1 hN, by rw [hN.2 5 (by omega)]; exact h2, fun k hk => by rw [hN.1 _ (by decide)]; exact h3 k hk, fun k hk => by rw [hN.1 _ (by decide)]; exact h4 k hk, fun k hk => by rw [hN.1 _ (by decide)]; exact h5 k hk⟩
theorem TM_K {n : Nat} {B : Nat → Nat} {m σ : St} (h : TMb n B m) (hK : KMf m σ) : TMb n B σ := by
  refine ⟨h.1, ?_, fun j hj => ?_⟩
  · rw [hK (40, 0, 0) 8 (Or.inl ⟨Or.inl ⟨rfl, Or.inl rfl⟩, fun q => by omega⟩)]; exact h.2.1
  · rw [hK (47, 0, 0) j (Or.inl ⟨Or.inr (Or.inr (Or.inr (Or.inr (Or.inl rfl)))), fun q => by have := (Prod.mk.inj q.1).1; omega⟩)]
    exact h.2.2 j hj
theorem XS_tk {x σ : St} {n p r l s K e : Nat} {ru ce to : Nat → Int32} (h : XS x σ n p r l ru ce to) : XS x (tkX σ s K e) n e r l ru ce to := by
  obtain ⟨h1, h2, h3, h4, h5, h6, h7, h8, h9⟩ := h
  refine ⟨K_tk h1, by rw [tk_k (by omega) (by omega) (by omega)]; exact h2, tk_5, by rw [tk_k (by omega) (by omega) (by omega)]; exact h4, by rw [tk_k (by omega) (by omega) (by omega)]; exact h5, by rw [tk_k (by omega) (by omega) (by omega)]; exact h6, ?_, ?_, ?_⟩
  · rw [tk_o (by omega)]; exact h7
  · rw [tk_o (by omega)]; exact h8
  · rw [tk_o (by omega)]; exact h9
/-- taking a token of a kind -/
theorem x_take' {n : Nat} {B : Nat → Nat} {x σ : St} {p r l w : Nat} {ru ce to : Nat → Int32} (hT : TXb n B x) (hp : p ≤ n) (hw : w ≤ 3) (h : XS x σ n p r l ru ce to) :
    (tOk n B p ∧ tK n B p = w ∧ F_X8_take (nI w) σ = some ((), tkX σ (tS n B p) (tK n B p) (tE n B p)) ∧ XS x (tkX σ (tS n B p) (tK n B p) (tE n B p)) n (tE n B p) r l ru ce to) ∨
    (tOk n B p ∧ ¬ tK n B p = w ∧ ∃ σ', F_X8_take (nI w) σ = some ((), σ') ∧ FX x σ' 2 (tS n B p)) ∨
    (¬ tOk n B p ∧ ∃ σ', F_X8_take (nI w) σ = some ((), σ') ∧ FX x σ' 1 (tS n B p)) := by
  obtain ⟨h1, h2, h3, h4, h5, h6, h7, h8, h9⟩ := id h
  have hn := hT.1
  have hb := tS_b (B := B) hp
  have hK3 : tK n B p ≤ 3 := kdB_b _
  rcases x_tok hp h1 hT h2 h3 h6 with ⟨ok, e⟩ | ⟨ok, σ', e, hF⟩
  · by_cases z : tK n B p = w
    · left
      refine ⟨ok, z, ?_, XS_tk h⟩
      rw [F_X8_take, if_pos h6, e, bd_i, tk_7, if_pos (by rw [z])]
    · right; left
      refine ⟨ok, z, _, ?_, FX_ft (ft := 2) (pl := tS n B p) (K_tk (s := tS n B p) (K := tK n B p) (e := tE n B p) h1) (by omega) (by omega) (by omega)⟩
      have ref : F_X8_refuse (2 : Int32) (nI (tS n B p)) (tkX σ (tS n B p) (tK n B p) (tE n B p)) = _ := x_refuse (ft := 2) (by rw [tk_k (by omega) (by omega) (by omega)]; exact h6)
      rw [F_X8_take, if_pos h6, e, bd_i, tk_7, if_neg (by rw [i_eq (by omega) (by omega)]; exact z), tk_8, ref, bd_i]
  · right; right
    refine ⟨ok, σ', ?_, hF⟩
    obtain ⟨k1, k2, k3, k4, k5, k6⟩ := hF
    rw [F_X8_take, if_pos h6, e, bd_i]
    by_cases z : σ'.1 (2, 0, 0) 7 = nI w
    · rw [if_pos z]
    · have n0 : ¬ σ'.1 (2, 0, 0) 10 = 0 := by rw [k2]; exact nI_ne0 (by omega) (by omega)
      rw [if_neg z, F_X8_refuse, if_neg n0, bd_i]
theorem x_takeF {x σ : St} {ft pl : Nat} {a : Int32} (h : FX x σ ft pl) : F_X8_take a σ = some ((), σ) := by
  have n0 : ¬ σ.1 (2, 0, 0) 10 = 0 := by rw [h.2.1]; exact nI_ne0 h.2.2.2.1 (by have := h.2.2.2.2.1; omega)
  rw [F_X8_take, if_neg n0]
theorem x_readF {x σ : St} {ft pl : Nat} {a b : Int32} (h : FX x σ ft pl) : F_X8_readValue a b σ = some ((), σ) := by
  have n0 : ¬ σ.1 (2, 0, 0) 10 = 0 := by rw [h.2.1]; exact nI_ne0 h.2.2.2.1 (by have := h.2.2.2.2.1; omega)
  rw [F_X8_readValue, x_takeF h, bd_i, if_neg n0]
theorem m_nextF {σ : St} {ft pl : Nat} (h : FM σ ft pl) (h1 : 1 ≤ ft) (h2 : ft ≤ 6) : F_X11_next σ = some ((), σ) := by
  have n0 : ¬ σ.1 (40, 0, 0) 13 ≤ 0 := by rw [h.1]; exact nI_nle h1 (by omega)
  rw [F_X11_next, if_neg n0]
theorem FM_n0 {σ : St} {ft pl : Nat} (h : FM σ ft pl) (h1 : 1 ≤ ft) (h2 : ft ≤ 6) : ¬ σ.1 (40, 0, 0) 13 = 0 := by rw [h.1]; exact nI_ne0 h1 (by omega)
theorem m_numF {σ : St} {ft pl : Nat} {a b : Int32} (h : FM σ ft pl) (h1 : 1 ≤ ft) (h2 : ft ≤ 6) : F_X11_readNumber a b σ = some (σ.1 (40, 0, 0) 12, σ) := by
  have n0 := FM_n0 h h1 h2
  simp only [F_X11_readNumber, n0, ↓reduceIte, nam_i, m_nextF h h1 h2, bd_i]
theorem x_value' {n : Nat} {B : Nat → Nat} {x : St} {c1 c2 : Int32} (hT : TXb n B x) {e : Nat} (he : e ≤ n) (kx : Int32 → St → Option (Unit × St)) : ∀ (k i fu v : Nat) (σ : St), i + k = e → k < fu → KX x σ → σ.1 (2, 0, 0) 4 = nI n → σ.1 (2, 0, 0) 5 = nI e → (∀ j, i ≤ j → j < e → 48 ≤ B j) → L_X8_readValue_21 c1 c2 fu (nI v) (nI i) σ kx = kx (nI (vF B k i v)) σ := by
  intro k
  induction k with
  | zero =>
    intro i fu v σ hk hf hX h4 h5 hd
    obtain ⟨f, rfl⟩ : ∃ f, fu = f + 1 := ⟨fu - 1, by omega⟩
    have hn := hT.1
    have z : e ≤ i := by omega
    simp (disch := omega) only [L_X8_readValue_21, h5, i_le, z, ↓reduceIte, vF]
  | succ k ih =>
    intro i fu v σ hk hf hX h4 h5 hd
    obtain ⟨f, rfl⟩ : ∃ f, fu = f + 1 := ⟨fu - 1, by omega⟩
    have hn := hT.1
    have z : ¬ e ≤ i := by omega
    have hb := x_byte (j := i) (TX_K hT hX) h4 (by omega)
    have eb : bt n B i = B i := if_pos (by omega)
    rw [eb] at hb
    have h48 := hd i (by omega) (by omega)
    have ea : (10 : Int32) * nI v + nI (B i) - 48 = nI (10 * v + B i - 48) := by
      rw [i_lm, nI_add]
      exact pk_sub (b := 48) (by omega)
    rw [vF, ← ih (i + 1) f _ σ (by omega) (by omega) hX h4 h5 (fun j h1 h2 => hd j (by omega) h2), L_X8_readValue_21.eq_2]
    simp (disch := omega) only [h5, i_le, z, ↓reduceIte, hb, bd_i, nam_i, ea, i_al]
theorem dig48 {c : Nat} (h : kdB c = 2) : 48 ≤ c ∧ c ≤ 57 := by
  unfold kdB at h
  split at h
  · omega
  · split at h
    · assumption
    · split at h <;> omega
theorem vF_b {B : Nat → Nat} {s e : Nat} (h1 : s < e) (h2 : e - s ≤ 2) (hd : ∀ j, s ≤ j → j < e → 48 ≤ B j ∧ B j ≤ 57) : vF B (e - s) s 0 ≤ 99 := by
  have : e - s = 1 ∨ e - s = 2 := by omega
  rcases this with q | q
  · rw [q, vF, vF]
    have := hd s (by omega) (by omega)
    omega
  · rw [q, vF, vF, vF]
    have a := hd s (by omega) (by omega)
    have b := hd (s + 1) (by omega) (by omega)
    omega
/-- a number read on both sides -/
theorem J_num {n : Nat} {B : Nat → Nat} {x m σ τ : St} {p r l k lo : Nat} {ru ce to : Nat → Int32} (hT : TXb n B x) (hTm : TMb n B m) (hp : p ≤ n) (hk : k < 9) (hlo : lo ≤ 60) (hX : XS x σ n p r l ru ce to) (hM : MS m τ r ru ce to) (hN : NMf n B τ p) {hi : Nat} (hhi : roC 101 k = nI hi) (hhi9 : hi ≤ 99) :
    (∃ ft pl σ' τ' v, F_X8_readValue (nI k) (nI lo) σ = some ((), σ') ∧ F_X11_readNumber (nI lo) (nI hi) τ = some (v, τ') ∧ FX x σ' ft pl ∧ FM τ' ft pl ∧ KMf m τ') ∨
    (∃ v q σ' τ', lo ≤ v ∧ v ≤ hi ∧ q ≤ n ∧ p < q ∧ F_X8_readValue (nI k) (nI lo) σ = some ((), σ') ∧ F_X11_readNumber (nI lo) (nI hi) τ = some (nI v, τ') ∧ XS x σ' n q r l (upd ru k (nI v)) ce to ∧ MS m τ' r ru ce to ∧ NMf n B τ' q) := by
  have hn := hT.1
  have hb := tS_b (B := B) hp
  have hE := tE_b (B := B) hp
  rcases x_take' (w := 2) hT hp (by omega) hX with ⟨ok, hK, e1, hX'⟩ | ⟨ok, hK, σ', e1, hF⟩ | ⟨ok, σ', e1, hF⟩
  · rcases hN with ⟨_, n13, n11, n10, n9, n12⟩ | ⟨nok, _⟩
    · have hs : tS n B p < n := by
        rcases Nat.lt_or_ge (tS n B p) n with q | q
        · exact q
        · exfalso
          have : tK n B p = kdB (bt n B (tS n B p)) := rfl
          have e0 : bt n B (tS n B p) = 0 := if_neg (by omega)
          rw [e0, hK] at this
          exact absurd this (by decide)
      have n12 := n12 hK hs
      have hlen := (ok hs).2 hK
      have hlt := hE.2.2 hs
      have hdig : ∀ j, tS n B p ≤ j → j < tE n B p → 48 ≤ B j ∧ B j ≤ 57 := by
        intro j h1 h2
        apply dig48
        have hEd : tE n B p = if tS n B p < n then (if tK n B p = 3 then tS n B p + 1 else runK B (tK n B p) (n - (tS n B p + 1)) (tS n B p + 1)) else tS n B p := rfl
        rw [if_pos hs, if_neg (by omega), hK] at hEd
        rcases Nat.lt_or_ge (tS n B p) j with q | q
        · exact run_in _ _ j q (by rw [← hEd]; exact h2)
        · have : tK n B p = kdB (bt n B (tS n B p)) := rfl
          rw [show bt n B (tS n B p) = B (tS n B p) from if_pos hs, hK] at this
          rw [show j = tS n B p by omega]
          exact this.symm
      have hvb := vF_b hlt hlen hdig
      generalize hv : vF B (tE n B p - tS n B p) (tS n B p) 0 = v at *
      have VL := fun kx => x_value' (c1 := nI k) (c2 := nI lo) hT hE.2.1 kx (tE n B p - tS n B p) (tS n B p) FU 0 (tkX σ (tS n B p) (tK n B p) (tE n B p)) (by omega) (by unfold FU; omega) hX'.1 hX'.2.1 tk_5 (fun j h1 h2 => (hdig j h1 h2).1)
      rw [hv] at VL
      have h10 : (tkX σ (tS n B p) (tK n B p) (tE n B p)).1 (2, 0, 0) 10 = 0 := hX'.2.2.2.2.2.1
      have eX : F_X8_readValue (nI k) (nI lo) σ = (if nI v < nI lo then bd (F_X8_refuse (3 : Int32) (nI (tS n B p)) (tkX σ (tS n B p) (tK n B p) (tE n B p))) fun _ σ11 => some ((), σ11) else (if nI hi < nI v then bd (F_X8_refuse (3 : Int32) (nI (tS n B p)) (tkX σ (tS n B p) (tK n B p) (tE n B p))) fun _ σ14 => some ((), σ14) else bd (F_X5_become 1 (nI k) (nI v) (tkX σ (tS n B p) (tK n B p) (tE n B p))) fun _ σ16 => some ((), σ16))) := by
        have e1' : F_X8_take 2 σ = _ := e1
        rw [F_X8_readValue, e1', bd_i, if_pos h10, nam_i, tk_8, show (0 : Int32) = nI 0 from rfl, VL, tk_8, inb_i (by omega) (by omega), ck_i, nI_clamp (by omega), hhi]
      have ref : F_X8_refuse (3 : Int32) (nI (tS n B p)) (tkX σ (tS n B p) (tK n B p) (tE n B p)) = some ((), ftX (tkX σ (tS n B p) (tK n B p) (tE n B p)) 3 (tS n B p)) := x_refuse (ft := 3) h10
      have eM0 : F_X11_readNumber (nI lo) (nI hi) τ = (bd (F_X11_in ((nI v).toInt64) ((nI lo).toInt64) ((nI hi).toInt64) τ) fun r9 σ8 => bd (F_X11_needs r9 (3 : Int32) σ8) fun _ σ11 => nam (σ11.1 (40, 0, 0) 12) fun x5 => bd (F_X11_next  σ11) fun _ σ6 => some (x5, σ6)) := by
        have k2 : nI (tK n B p) = 2 := by rw [hK]; rfl
        rw [F_X11_readNumber]
        simp only [n13, n11, k2, ↓reduceIte, nam_i, m_needs1 (show ¬ (1 : Int32) = 0 by decide), bd_i, n12]
      by_cases hr : lo ≤ v ∧ v ≤ hi
      · right
        have hTt : TMb n B τ := TM_K hTm hM.1
        obtain ⟨τ', f1, f2, f3⟩ := m_tok (p := tE n B p) hE.2.1 hTt n9 n13
        have in1 : F_X11_in ((nI v).toInt64) ((nI lo).toInt64) ((nI hi).toInt64) τ = some (1, τ) := by
          rw [m_inE, if_neg (nI_nlt hr.1 (by omega)), if_neg (nI_nlt hr.2 (by omega))]
        have nk : ¬ 9 ≤ k := by omega
        have pk : ¬ nI k < 0 := nI_pos (by omega)
        have eb : F_X5_become 1 (nI k) (nI v) (tkX σ (tS n B p) (tK n B p) (tE n B p)) = some ((), uI (tkX σ (tS n B p) (tK n B p) (tE n B p)) (4, 1, 0) k (nI v)) := by
          simp (disch := omega) only [F_X5_become, pk, i_lel, nk, ↓reduceIte, inb_i, ck_i, nI_clamp, nam_i]
        refine ⟨v, tE n B p, uI (tkX σ (tS n B p) (tK n B p) (tE n B p)) (4, 1, 0) k (nI v), τ', hr.1, hr.2, hE.2.1, by omega, ?_, ?_, ?_, MS_N hM f2, f3⟩
        · rw [eX, if_neg (nI_nlt hr.1 (by omega)), if_neg (nI_nlt hr.2 (by omega)), eb, bd_i]
        · rw [eM0, in1, bd_i, m_needs1 (by decide), bd_i, nam_i, n12, f1, bd_i]
        · obtain ⟨h1, h2, h3, h4, h5, h6, h7, h8, h9⟩ := hX'
          refine ⟨KX_u (Or.inr (Or.inl ⟨rfl, rfl⟩)) h1, by rw [rd_t (by omega)]; exact h2, by rw [rd_t (by omega)]; exact h3, by rw [rd_t (by omega)]; exact h4, by rw [rd_t (by omega)]; exact h5, by rw [rd_t (by omega)]; exact h6, ?_, by rw [rd_t (by omega)]; exact h8, by rw [rd_t (by omega)]; exact h9⟩
          intro j hj
          rw [rd_e]
          by_cases e : j = k
          · subst e; rw [pk_us, pk_us]
          · rw [pk_un e, pk_un e]; exact h7 j hj
      · left
        have in0 : F_X11_in ((nI v).toInt64) ((nI lo).toInt64) ((nI hi).toInt64) τ = some (0, τ) := by
          rw [m_inE]
          by_cases q : v < lo
          · rw [if_pos (nI_lt q (by omega))]
          · rw [if_neg (nI_nlt (by omega) (by omega)), if_pos (nI_lt (by omega) (by omega))]
        have hN0 : NXf τ (uI (uI τ (40, 0, 0) 13 3) (40, 0, 0) 14 (τ.1 (40, 0, 0) 10)) := NXf_u (by omega) (by omega) (NXf_u (by omega) (by omega) NXf_rfl)
        have hFM : FM (uI (uI τ (40, 0, 0) 13 3) (40, 0, 0) 14 (τ.1 (40, 0, 0) 10)) 3 (tS n B p) := by
          refine ⟨?_, ?_⟩
          · simp (disch := omega) only [rd_e, pk_un, pk_us]; rfl
          · rw [rd_e, pk_us, n10]
        refine ⟨3, tS n B p, ftX (tkX σ (tS n B p) (tK n B p) (tE n B p)) 3 (tS n B p), uI (uI τ (40, 0, 0) 13 3) (40, 0, 0) 14 (τ.1 (40, 0, 0) 10), (uI (uI τ (40, 0, 0) 13 3) (40, 0, 0) 14 (τ.1 (40, 0, 0) 10)).1 (40, 0, 0) 12, ?_, ?_, FX_ft hX'.1 (by omega) (by omega) (by omega), hFM, KMf_N hM.1 hN0⟩
        · rw [eX, ref, bd_i]
          by_cases q : v < lo
          · rw [if_pos (nI_lt q (by omega))]
          · rw [if_neg (nI_nlt (by omega) (by omega)), if_pos (nI_lt (by omega) (by omega))]
        · rw [eM0, in0, bd_i, m_needs0 n13, bd_i, nam_i, m_nextF hFM (by omega) (by omega), bd_i]
    · exact absurd ok nok
  · left
    have n0 : ¬ σ'.1 (2, 0, 0) 10 = 0 := by rw [hF.2.1]; exact nI_ne0 hF.2.2.2.1 (by omega)
    rcases hN with ⟨_, n13, n11, n10, n9, n12⟩ | ⟨nok, _⟩
    · have hK3 : tK n B p ≤ 3 := kdB_b _
      have k2 : ¬ nI (tK n B p) = 2 := by rw [i_eqr (by omega) (by decide)]; exact hK
      have hN0 : NXf τ (uI (uI τ (40, 0, 0) 13 2) (40, 0, 0) 14 (τ.1 (40, 0, 0) 10)) := NXf_u (by omega) (by omega) (NXf_u (by omega) (by omega) NXf_rfl)
      have hFM : FM (uI (uI τ (40, 0, 0) 13 2) (40, 0, 0) 14 (τ.1 (40, 0, 0) 10)) 2 (tS n B p) := by
        refine ⟨?_, ?_⟩
        · simp (disch := omega) only [rd_e, pk_un, pk_us]; rfl
        · rw [rd_e, pk_us, n10]
      have f0 := FM_n0 hFM (by omega) (by omega)
      refine ⟨2, tS n B p, σ', uI (uI τ (40, 0, 0) 13 2) (40, 0, 0) 14 (τ.1 (40, 0, 0) 10), (uI (uI τ (40, 0, 0) 13 2) (40, 0, 0) 14 (τ.1 (40, 0, 0) 10)).1 (40, 0, 0) 12, ?_, ?_, hF, hFM, KMf_N hM.1 hN0⟩
      · have e1' : F_X8_take 2 σ = _ := e1
        rw [F_X8_readValue, e1', bd_i, if_neg n0]
      · rw [F_X11_readNumber]
        simp only [n13, n11, k2, ↓reduceIte, nam_i, m_needs0 n13, bd_i, f0, m_nextF hFM (show 1 ≤ 2 by omega) (show 2 ≤ 6 by omega)]
    · exact absurd ok nok
  · left
    have n0 : ¬ σ'.1 (2, 0, 0) 10 = 0 := by rw [hF.2.1]; exact nI_ne0 hF.2.2.2.1 (by omega)
    rcases hN with hN | ⟨nok, hFM⟩
    · exact absurd hN.1 ok
    · refine ⟨1, tS n B p, σ', τ, _, ?_, m_numF hFM (by omega) (by omega), hF, hFM, hM.1⟩
      have e1' : F_X8_take 2 σ = _ := e1
      rw [F_X8_readValue, e1', bd_i, if_neg n0]
