/-! the text: its tokens, the model's side -/
def vF (B : Nat → Nat) : Nat → Nat → Nat → Nat
  | 0, _, v => v
  | k + 1, i, v => vF B k (i + 1) (10 * v + B i - 48)
def vM (B : Nat → Nat) (s : Nat) : Nat → Nat → Nat → Nat
  | 0, _, v => v
  | k + 1, i, v => if kdB (B i) = 2 then vM B s k (i + 1) (if 2 ≤ i - s then v else 10 * v + B i - 48) else v
theorem vM_vF {B : Nat → Nat} {s : Nat} : ∀ (k i v : Nat), s ≤ i → runK B 2 k i - s ≤ 2 → vM B s k i v = vF B (runK B 2 k i - i) i v := by
  intro k
  induction k with
  | zero => intro i v h1 h2; rw [vM, runK, Nat.sub_self, vF]
  | succ k ih =>
    intro i v h1 h2
    rw [vM]
    rw [runK] at h2 ⊢
    by_cases z : kdB (B i) = 2
    · rw [if_pos z] at h2 ⊢
      have hb := run_b (B := B) (K := 2) k (i + 1)
      rw [if_pos z, if_neg (by omega), ih (i + 1) _ (by omega) h2, show runK B 2 k (i + 1) - i = (runK B 2 k (i + 1) - (i + 1)) + 1 by omega, vF]
    · rw [if_neg z, if_neg z, Nat.sub_self, vF]
def NXf (σ σ' : St) : Prop := (∀ d : Id3, d ≠ (40, 0, 0) → σ'.1 d = σ.1 d) ∧ ∀ j, j < 9 ∨ 14 < j → σ'.1 (40, 0, 0) j = σ.1 (40, 0, 0) j
theorem NXf_rfl {σ : St} : NXf σ σ := ⟨fun _ _ => rfl, fun _ _ => rfl⟩
theorem NXf_u {σ σ' : St} {k : Nat} {v : Int32} (h9 : 9 ≤ k) (h14 : k ≤ 14) (h : NXf σ σ') : NXf σ (uI σ' (40, 0, 0) k v) := by
  refine ⟨fun d hd => ?_, fun j hj => ?_⟩
  · rw [uI_ne hd]; exact h.1 d hd
  · rw [rd_e, pk_un (by omega)]; exact h.2 j hj
theorem NXf_trans {a b c : St} (h : NXf a b) (h' : NXf b c) : NXf a c := ⟨fun d hd => (h'.1 d hd).trans (h.1 d hd), fun j hj => (h'.2 j hj).trans (h.2 j hj)⟩
/-- the model's tape is B -/
def TMb (n : Nat) (B : Nat → Nat) (m : St) : Prop := n ≤ 320 ∧ m.1 (40, 0, 0) 8 = nI n ∧ ∀ j, j < n → B j < 256 ∧ m.1 (47, 0, 0) j = nI (B j)
theorem TM_N {n : Nat} {B : Nat → Nat} {m σ : St} (h : TMb n B m) (hN : NXf m σ) : TMb n B σ := ⟨h.1, by rw [hN.2 8 (by omega)]; exact h.2.1, fun j hj => by rw [hN.1 _ (by decide)]; exact h.2.2 j hj⟩
theorem m_look {n : Nat} {B : Nat → Nat} {σ : St} {j : Nat} (h : TMb n B σ) (hj : j < 2 ^ 31) : F_X11_look (nI j) σ = some (if j < n then nI (B j) else -1, σ) := by
  have hn := h.1
  by_cases z : j < n
  · have z1 : ¬ n ≤ j := by omega
    have e := (h.2.2 j z).2
    simp (disch := omega) only [F_X11_look, h.2.1, i_le, z1, ↓reduceIte, inb_i, ck_i, nI_clamp, e, z]
  · have z1 : n ≤ j := by omega
    simp (disch := omega) only [F_X11_look, h.2.1, i_le, z1, ↓reduceIte, z]
theorem IV_n {lo hi j : Nat} (hj : j < 2 ^ 31) (hh : hi < 2 ^ 31) : IV lo hi (nI j) ↔ lo ≤ j ∧ j ≤ hi := by
  constructor
  · rintro ⟨i, h1, h2, h3⟩
    rw [i_eq hj (by omega)] at h3
    omega
  · rintro ⟨h1, h2⟩
    exact ⟨j, h1, h2, rfl⟩
theorem m_isLet {σ : St} {c : Nat} (hc : c < 256) : F_X11_in (nI c).toInt64 97 122 σ = some (if kdB c = 1 then 1 else 0, σ) := by
  by_cases z : 97 ≤ c ∧ c ≤ 122
  · have e : kdB c = 1 := if_pos z
    rw [m_wt z.1 z.2 (by omega), if_pos e]
  · have e : ¬ kdB c = 1 := by
      unfold kdB
      rw [if_neg z]
      split
      · omega
      · split <;> omega
    rw [m_wf (by rw [IV_n (by omega) (by omega)]; exact z) (by omega) (by omega), if_neg e]
theorem m_isDig {σ : St} {c : Nat} (hc : c < 256) : F_X11_in (nI c).toInt64 48 57 σ = some (if kdB c = 2 then 1 else 0, σ) := by
  by_cases z : 48 ≤ c ∧ c ≤ 57
  · have e : kdB c = 2 := by unfold kdB; rw [if_neg (by omega), if_pos z]
    rw [m_wt z.1 z.2 (by omega), if_pos e]
  · have e : ¬ kdB c = 2 := by
      unfold kdB
      repeat' split
      all_goals omega
    rw [m_wf (by rw [IV_n (by omega) (by omega)]; exact z) (by omega) (by omega), if_neg e]
theorem m_m1 {lo hi : Nat} {σ : St} (hl : lo < 2 ^ 31) (hh : hi < 2 ^ 31) : F_X11_in ((-1 : Int32).toInt64) (lN lo) (lN hi) σ = some (0, σ) := by
  refine m_wfN ?_ hh hl σ
  rintro ⟨j, h1, h2, h3⟩
  have := congrArg Int32.toInt h3
  rw [nI_toInt (by omega)] at this
  have e : (-1 : Int32).toInt = -1 := by decide
  omega
theorem m_skip {n : Nat} {B : Nat → Nat} (kx : St → Option (Unit × St)) : ∀ (k p fu : Nat) (σ : St), p + k = n → k < fu → TMb n B σ → σ.1 (40, 0, 0) 9 = nI p → L_X11_next_8 fu σ kx = kx (uI σ (40, 0, 0) 9 (nI (skp n B k p))) := by
  intro k
  induction k with
  | zero =>
    intro p fu σ hk hf hT h9
    obtain ⟨f, rfl⟩ : ∃ f, fu = f + 1 := ⟨fu - 1, by omega⟩
    have hn := hT.1
    have z : ¬ p < n := by omega
    have l := m_look (j := p) hT (by omega)
    rw [if_neg z] at l
    have ne : ¬ (-1 : Int32) = 32 := by decide
    rw [skp, ← h9, uI_id]
    simp only [L_X11_next_8, h9, l, bd_i, ne, ↓reduceIte]
  | succ k ih =>
    intro p fu σ hk hf hT h9
    obtain ⟨f, rfl⟩ : ∃ f, fu = f + 1 := ⟨fu - 1, by omega⟩
    have hn := hT.1
    have z : p < n := by omega
    have l := m_look (j := p) hT (by omega)
    have hB := (hT.2.2 p z).1
    rw [if_pos z] at l
    rw [skp]
    by_cases z2 : B p = 32
    · rw [if_pos z2]
      have := ih (p + 1) f (uI σ (40, 0, 0) 9 (nI (p + 1))) (by omega) (by omega) (TM_N hT (NXf_u (by omega) (by omega) NXf_rfl)) (by rw [rd_e, pk_us])
      rw [uI_uI] at this
      rw [← this, L_X11_next_8.eq_2]
      simp (disch := omega) only [h9, l, bd_i, i_eqr, z2, ↓reduceIte, nam_i, i_al]
    · rw [if_neg z2, ← h9, uI_id, L_X11_next_8.eq_2]
      simp (disch := omega) only [h9, l, bd_i, i_eqr, z2, ↓reduceIte]
theorem m_runL {n : Nat} {B : Nat → Nat} : ∀ (k p fu : Nat) (σ : St), p + k = n → k < fu → TMb n B σ → σ.1 (40, 0, 0) 9 = nI p → L_X11_next_82 fu σ = some ((), uI σ (40, 0, 0) 9 (nI (runK B 1 k p))) := by
  intro k
  induction k with
  | zero =>
    intro p fu σ hk hf hT h9
    obtain ⟨f, rfl⟩ : ∃ f, fu = f + 1 := ⟨fu - 1, by omega⟩
    have hn := hT.1
    have z : ¬ p < n := by omega
    have l := m_look (j := p) hT (by omega)
    rw [if_neg z] at l
    have e := m_m1 (lo := 97) (hi := 122) (σ := σ) (by omega) (by omega)
    have e' : F_X11_in ((-1 : Int32).toInt64) 97 122 σ = some (0, σ) := e
    rw [runK, ← h9, uI_id]
    simp only [L_X11_next_82, h9, l, bd_i, e', ↓reduceIte]
  | succ k ih =>
    intro p fu σ hk hf hT h9
    obtain ⟨f, rfl⟩ : ∃ f, fu = f + 1 := ⟨fu - 1, by omega⟩
    have hn := hT.1
    have z : p < n := by omega
    have l := m_look (j := p) hT (by omega)
    have hB := (hT.2.2 p z).1
    rw [if_pos z] at l
    have e := m_isLet (σ := σ) hB
    rw [runK]
    by_cases z2 : kdB (B p) = 1
    · rw [if_pos z2] at e
      rw [if_pos z2]
      have := ih (p + 1) f (uI σ (40, 0, 0) 9 (nI (p + 1))) (by omega) (by omega) (TM_N hT (NXf_u (by omega) (by omega) NXf_rfl)) (by rw [rd_e, pk_us])
      rw [uI_uI] at this
      rw [← this, L_X11_next_82.eq_2]
      simp (disch := omega) only [h9, l, bd_i, e, ft10, ↓reduceIte, nam_i, i_al]
    · rw [if_neg z2] at e
      rw [if_neg z2, ← h9, uI_id, L_X11_next_82.eq_2]
      simp (disch := omega) only [h9, l, bd_i, e, ↓reduceIte]
theorem m_runD {n : Nat} {B : Nat → Nat} {s : Nat} (kx : St → Option (Unit × St)) : ∀ (k p fu v : Nat) (σ : St), p + k = n → k < fu → s ≤ p → TMb n B σ → σ.1 (40, 0, 0) 9 = nI p → σ.1 (40, 0, 0) 10 = nI s → σ.1 (40, 0, 0) 12 = nI v → L_X11_next_140 fu σ kx = kx (uI (uI σ (40, 0, 0) 12 (nI (vM B s k p v))) (40, 0, 0) 9 (nI (runK B 2 k p))) := by
  intro k
  induction k with
  | zero =>
    intro p fu v σ hk hf hs hT h9 h10 h12
    obtain ⟨f, rfl⟩ : ∃ f, fu = f + 1 := ⟨fu - 1, by omega⟩
    have hn := hT.1
    have z : ¬ p < n := by omega
    have l := m_look (j := p) hT (by omega)
    rw [if_neg z] at l
    have e := m_m1 (lo := 48) (hi := 57) (σ := σ) (by omega) (by omega)
    have e' : F_X11_in ((-1 : Int32).toInt64) 48 57 σ = some (0, σ) := e
    rw [runK, vM, ← h12, uI_id, ← h9, uI_id]
    simp only [L_X11_next_140, h9, l, bd_i, e', ↓reduceIte]
  | succ k ih =>
    intro p fu v σ hk hf hs hT h9 h10 h12
    obtain ⟨f, rfl⟩ : ∃ f, fu = f + 1 := ⟨fu - 1, by omega⟩
    have hn := hT.1
    have z : p < n := by omega
    have l := m_look (j := p) hT (by omega)
    have hB := (hT.2.2 p z).1
    rw [if_pos z] at l
    have e := m_isDig (σ := σ) hB
    rw [runK, vM]
    by_cases z2 : kdB (B p) = 2
    · rw [if_pos z2] at e
      rw [if_pos z2, if_pos z2]
      have hd : 48 ≤ B p := by
        unfold kdB at z2
        split at z2
        · omega
        · split at z2
          · omega
          · split at z2 <;> omega
      have step : ∀ v', L_X11_next_140 f (uI (uI σ (40, 0, 0) 12 (nI v')) (40, 0, 0) 9 (nI (p + 1))) kx = kx (uI (uI σ (40, 0, 0) 12 (nI (vM B s k (p + 1) v'))) (40, 0, 0) 9 (nI (runK B 2 k (p + 1)))) := by
        intro v'
        have := ih (p + 1) f v' (uI (uI σ (40, 0, 0) 12 (nI v')) (40, 0, 0) 9 (nI (p + 1))) (by omega) (by omega) (by omega) (TM_N hT (NXf_u (by omega) (by omega) (NXf_u (by omega) (by omega) NXf_rfl))) (by rw [rd_e, pk_us]) (by simp (disch := omega) only [rd_e, pk_un]; exact h10) (by simp (disch := omega) only [rd_e, pk_un, pk_us])
        rw [this, uI_sw (k := 9) (j := 12) (by omega), uI_uI, uI_uI]
      by_cases z3 : 2 ≤ p - s
      · rw [if_pos z3, ← step v, L_X11_next_140.eq_2]
        simp (disch := omega) only [h9, h10, h12, l, bd_i, e, ft10, ↓reduceIte, nam_i, pk_sub, i_lel, z3, rd_e, pk_un, i_al]
      · have ea : (10 : Int32) * nI v + nI (B p) - 48 = nI (10 * v + B p - 48) := by
          rw [i_lm, nI_add]
          exact pk_sub (b := 48) (by omega)
        rw [if_neg z3, ← step (10 * v + B p - 48), L_X11_next_140.eq_2]
        simp (disch := omega) only [h9, h10, h12, l, bd_i, e, ft10, ↓reduceIte, nam_i, pk_sub, i_lel, z3, ea, rd_e, pk_un, i_al]
    · rw [if_neg z2] at e
      rw [if_neg z2, if_neg z2, ← h12, uI_id, ← h9, uI_id, L_X11_next_140.eq_2]
      simp (disch := omega) only [h9, l, bd_i, e, ↓reduceIte]
theorem m_needs1 {σ : St} {a2 : Int32} {a : Int32} (h : ¬ a = 0) : F_X11_needs a a2 σ = some ((), σ) := by
  rw [F_X11_needs, if_neg h]
theorem m_needs0 {σ : St} {a2 : Int32} (h : σ.1 (40, 0, 0) 13 = 0) : F_X11_needs 0 a2 σ = some ((), uI (uI σ (40, 0, 0) 13 a2) (40, 0, 0) 14 (σ.1 (40, 0, 0) 10)) := by
  rw [F_X11_needs, if_pos rfl, if_pos h, nam_i, nam_i, rd_e, pk_un (by omega)]
theorem m_needsF {σ : St} {a a2 : Int32} (h : ¬ σ.1 (40, 0, 0) 13 = 0) : F_X11_needs a a2 σ = some ((), σ) := by
  rw [F_X11_needs]
  by_cases q : a = 0
  · rw [if_pos q, if_neg h]
  · rw [if_neg q]
/-- the model has read the token from p on -/
def NM (n : Nat) (B : Nat → Nat) (σ : St) (p : Nat) : Prop := tOk n B p ∧ σ.1 (40, 0, 0) 13 = 0 ∧ σ.1 (40, 0, 0) 11 = nI (tK n B p) ∧ σ.1 (40, 0, 0) 10 = nI (tS n B p) ∧ σ.1 (40, 0, 0) 9 = nI (tE n B p) ∧ (tK n B p = 2 → tS n B p < n → σ.1 (40, 0, 0) 12 = nI (vF B (tE n B p - tS n B p) (tS n B p) 0))
def FM (σ : St) (ft pl : Nat) : Prop := σ.1 (40, 0, 0) 13 = nI ft ∧ σ.1 (40, 0, 0) 14 = nI pl
theorem m_tok {n : Nat} {B : Nat → Nat} {p : Nat} {σ : St} (hp : p ≤ n) (hT : TMb n B σ) (h9 : σ.1 (40, 0, 0) 9 = nI p) (h13 : σ.1 (40, 0, 0) 13 = 0) : ∃ σ', F_X11_next σ = some ((), σ') ∧ NXf σ σ' ∧ (NM n B σ' p ∨ (¬ tOk n B p ∧ FM σ' 1 (tS n B p))) := by
  have hn := hT.1
  obtain ⟨b1, b2⟩ := tS_b (B := B) hp
  have eS : skp n B (n - p) p = tS n B p := rfl
  have L0 := fun kx => m_skip kx (n - p) p FU σ (by omega) (by unfold FU; omega) hT h9
  rw [eS] at L0
  have hE := tE_b (B := B) hp
  have hKe : tK n B p = kdB (bt n B (tS n B p)) := rfl
  have hEd : tE n B p = if tS n B p < n then (if tK n B p = 3 then tS n B p + 1 else runK B (tK n B p) (n - (tS n B p + 1)) (tS n B p + 1)) else tS n B p := rfl
  have hOk : tOk n B p = (tS n B p < n → (tK n B p ≠ 0 ∧ (tK n B p = 2 → tE n B p - tS n B p ≤ 2))) := rfl
  unfold NM
  rw [hOk]
  generalize hs : tS n B p = s at *
  generalize hKK : tK n B p = K at *
  generalize hee : tE n B p = e at *
  have h130 : σ.1 (40, 0, 0) 13 ≤ 0 := by rw [h13]; decide
  have q9 : (uI σ (40, 0, 0) 9 (nI s)).1 (40, 0, 0) 9 = nI s := by rw [rd_e, pk_us]
  have hN1 : NXf σ (uI (uI σ (40, 0, 0) 9 (nI s)) (40, 0, 0) 10 (nI s)) := NXf_u (by omega) (by omega) (NXf_u (by omega) (by omega) NXf_rfl)
  have q9' : (uI (uI σ (40, 0, 0) 9 (nI s)) (40, 0, 0) 10 (nI s)).1 (40, 0, 0) 9 = nI s := by simp (disch := omega) only [rd_e, pk_un, pk_us]
  have q10' : (uI (uI σ (40, 0, 0) 9 (nI s)) (40, 0, 0) 10 (nI s)).1 (40, 0, 0) 10 = nI s := by simp (disch := omega) only [rd_e, pk_us]
  have q13' : (uI (uI σ (40, 0, 0) 9 (nI s)) (40, 0, 0) 10 (nI s)).1 (40, 0, 0) 13 = 0 := by simp (disch := omega) only [rd_e, pk_un]; exact h13
  have hT1 := TM_N hT hN1
  have l := m_look (σ := uI (uI σ (40, 0, 0) 9 (nI s)) (40, 0, 0) 10 (nI s)) (j := s) hT1 (by omega)
  rw [F_X11_next, if_pos h130, L0, nam_i, q9, q9', l, bd_i]
  generalize uI (uI σ (40, 0, 0) 9 (nI s)) (40, 0, 0) 10 (nI s) = τ at *
  by_cases z : s < n
  · have hB := (hT1.2.2 s z).1
    have ebt : bt n B s = B s := if_pos z
    rw [ebt] at hKe
    rw [if_pos z] at hEd
    rw [if_pos z, if_pos (nI_pos' (by omega))]
    rw [m_isLet hB, bd_i]
    by_cases k1 : K = 1
    · have e1 : kdB (B s) = 1 := by omega
      rw [if_pos e1, if_neg (by decide), nam_i]
      have hR := m_runL (B := B) (n - s) s FU (uI τ (40, 0, 0) 11 1) (by omega) (by unfold FU; omega) (TM_N hT1 (NXf_u (by omega) (by omega) NXf_rfl)) (by simp (disch := omega) only [rd_e, pk_un]; exact q9')
      rw [show n - s = (n - (s + 1)) + 1 by omega, runK, if_pos (by omega)] at hR
      rw [if_neg (by omega), k1] at hEd
      rw [← hEd] at hR
      refine ⟨_, hR, NXf_trans hN1 (NXf_u (by omega) (by omega) (NXf_u (by omega) (by omega) NXf_rfl)), Or.inl ⟨fun _ => ⟨by omega, fun q => by omega⟩, ?_, ?_, ?_, ?_, fun q => by omega⟩⟩
      · simp (disch := omega) only [rd_e, pk_un]; exact q13'
      · simp (disch := omega) only [rd_e, pk_un, pk_us, k1]; rfl
      · simp (disch := omega) only [rd_e, pk_un]; exact q10'
      · simp (disch := omega) only [rd_e, pk_us]
    · have e1 : ¬ kdB (B s) = 1 := by omega
      rw [if_neg e1, if_pos rfl, m_isDig hB, bd_i]
      by_cases k2 : K = 2
      · have e2 : kdB (B s) = 2 := by omega
        rw [if_pos e2, if_neg (by decide), nam_i, nam_i]
        have hR := fun kx => m_runD (B := B) (s := s) kx (n - s) s FU 0 (uI (uI τ (40, 0, 0) 11 2) (40, 0, 0) 12 0) (by omega) (by unfold FU; omega) (Nat.le_refl s) (TM_N hT1 (NXf_u (by omega) (by omega) (NXf_u (by omega) (by omega) NXf_rfl))) (by simp (disch := omega) only [rd_e, pk_un]; exact q9') (by simp (disch := omega) only [rd_e, pk_un]; exact q10') (by simp (disch := omega) only [rd_e, pk_us]; rfl)
        have hrun : runK B 2 (n - s) s = e := by
          rw [if_neg (by omega), k2] at hEd
          rw [show n - s = (n - (s + 1)) + 1 by omega, runK, if_pos (by omega), hEd]
        rw [hrun] at hR
        rw [hR]
        have hNt : NXf σ (uI (uI (uI (uI τ (40, 0, 0) 11 2) (40, 0, 0) 12 0) (40, 0, 0) 12 (nI (vM B s (n - s) s 0))) (40, 0, 0) 9 (nI e)) := NXf_trans hN1 (NXf_u (by omega) (by omega) (NXf_u (by omega) (by omega) (NXf_u (by omega) (by omega) (NXf_u (by omega) (by omega) NXf_rfl))))
        have p9 : (uI (uI (uI (uI τ (40, 0, 0) 11 2) (40, 0, 0) 12 0) (40, 0, 0) 12 (nI (vM B s (n - s) s 0))) (40, 0, 0) 9 (nI e)).1 (40, 0, 0) 9 = nI e := by simp (disch := omega) only [rd_e, pk_us]
        have p10 : (uI (uI (uI (uI τ (40, 0, 0) 11 2) (40, 0, 0) 12 0) (40, 0, 0) 12 (nI (vM B s (n - s) s 0))) (40, 0, 0) 9 (nI e)).1 (40, 0, 0) 10 = nI s := by simp (disch := omega) only [rd_e, pk_un]; exact q10'
        have p11 : (uI (uI (uI (uI τ (40, 0, 0) 11 2) (40, 0, 0) 12 0) (40, 0, 0) 12 (nI (vM B s (n - s) s 0))) (40, 0, 0) 9 (nI e)).1 (40, 0, 0) 11 = nI K := by simp (disch := omega) only [rd_e, pk_un, pk_us, k2]; rfl
        have p12 : (uI (uI (uI (uI τ (40, 0, 0) 11 2) (40, 0, 0) 12 0) (40, 0, 0) 12 (nI (vM B s (n - s) s 0))) (40, 0, 0) 9 (nI e)).1 (40, 0, 0) 12 = nI (vM B s (n - s) s 0) := by simp (disch := omega) only [rd_e, pk_un, pk_us]
        have p13 : (uI (uI (uI (uI τ (40, 0, 0) 11 2) (40, 0, 0) 12 0) (40, 0, 0) 12 (nI (vM B s (n - s) s 0))) (40, 0, 0) 9 (nI e)).1 (40, 0, 0) 13 = 0 := by simp (disch := omega) only [rd_e, pk_un]; exact q13'
        generalize uI (uI (uI (uI τ (40, 0, 0) 11 2) (40, 0, 0) 12 0) (40, 0, 0) 12 (nI (vM B s (n - s) s 0))) (40, 0, 0) 9 (nI e) = ρ at *
        have hlt := hE.2.2 z
        rw [p9, p10, pk_sub hE.1, nam_i]
        by_cases hl : 2 < e - s
        · rw [if_pos (by rw [i_ltl (by decide) (by omega)]; exact hl)]
          show ∃ σ', bd (F_X11_needs 0 1 ρ) (fun _ σ47 => some ((), σ47)) = some ((), σ') ∧ _
          rw [m_needs0 p13, bd_i, p10]
          refine ⟨_, rfl, NXf_trans hNt (NXf_u (by omega) (by omega) (NXf_u (by omega) (by omega) NXf_rfl)), Or.inr ⟨fun q => ?_, ?_, ?_⟩⟩
          · have := (q z).2 k2
            omega
          · simp (disch := omega) only [rd_e, pk_un, pk_us]; rfl
          · simp (disch := omega) only [rd_e, pk_us]
        · rw [if_neg (by rw [i_ltl (by decide) (by omega)]; exact hl)]
          show ∃ σ', bd (F_X11_needs 1 1 ρ) (fun _ σ47 => some ((), σ47)) = some ((), σ') ∧ _
          rw [m_needs1 (by decide), bd_i]
          refine ⟨ρ, rfl, hNt, Or.inl ⟨fun _ => ⟨by omega, fun _ => by omega⟩, p13, p11, p10, p9, fun _ _ => ?_⟩⟩
          rw [p12, vM_vF _ _ _ (Nat.le_refl s) (by rw [hrun]; omega), hrun]
      · have e2 : ¬ kdB (B s) = 2 := by omega
        rw [if_neg e2, if_pos rfl, nam_i, nam_i]
        have hK3 := kdB_b (B s)
        by_cases k3 : K = 3
        · have c59 : B s = 59 := by
            rw [k3] at hKe
            unfold kdB at hKe
            split at hKe
            · omega
            · split at hKe
              · omega
              · split at hKe
                · assumption
                · omega
          rw [if_pos (by rw [c59]; rfl)]
          show ∃ σ', bd (F_X11_needs 1 1 (uI τ (40, 0, 0) 11 3)) (fun _ σ21 => nam (uI σ21 (40, 0, 0) 9 ((σ21.1 (40, 0, 0) 9) + (1 : Int32))) fun σ23 => some ((), σ23)) = some ((), σ') ∧ _
          rw [m_needs1 (by decide), bd_i, nam_i]
          rw [if_pos k3] at hEd
          have q9'' : (uI τ (40, 0, 0) 11 3).1 (40, 0, 0) 9 = nI s := by simp (disch := omega) only [rd_e, pk_un]; exact q9'
          rw [q9'', i_al]
          refine ⟨_, rfl, NXf_trans hN1 (NXf_u (by omega) (by omega) (NXf_u (by omega) (by omega) NXf_rfl)), Or.inl ⟨fun _ => ⟨by omega, fun q => by omega⟩, ?_, ?_, ?_, ?_, fun q => by omega⟩⟩
          · simp (disch := omega) only [rd_e, pk_un]; exact q13'
          · simp (disch := omega) only [rd_e, pk_un, pk_us, k3]; rfl
          · simp (disch := omega) only [rd_e, pk_un]; exact q10'
          · simp (disch := omega) only [rd_e, pk_us, hEd]
        · have k0 : K = 0 := by omega
          have c59 : ¬ B s = 59 := by
            intro q
            rw [q] at hKe
            have : kdB 59 = 3 := by decide
            omega
          rw [if_neg (by rw [i_eqr (by omega) (by decide)]; exact c59)]
          have p13 : (uI τ (40, 0, 0) 11 3).1 (40, 0, 0) 13 = 0 := by simp (disch := omega) only [rd_e, pk_un]; exact q13'
          have p10 : (uI τ (40, 0, 0) 11 3).1 (40, 0, 0) 10 = nI s := by simp (disch := omega) only [rd_e, pk_un]; exact q10'
          show ∃ σ', bd (F_X11_needs 0 1 (uI τ (40, 0, 0) 11 3)) (fun _ σ21 => nam (uI σ21 (40, 0, 0) 9 ((σ21.1 (40, 0, 0) 9) + (1 : Int32))) fun σ23 => some ((), σ23)) = some ((), σ') ∧ _
          rw [m_needs0 p13, bd_i, p10, nam_i]
          refine ⟨_, rfl, NXf_trans hN1 (NXf_u (by omega) (by omega) (NXf_u (by omega) (by omega) (NXf_u (by omega) (by omega) (NXf_u (by omega) (by omega) NXf_rfl)))), Or.inr ⟨fun q => (q z).1 k0, ?_, ?_⟩⟩
          · simp (disch := omega) only [rd_e, pk_un, pk_us]; rfl
          · simp (disch := omega) only [rd_e, pk_un, pk_us]
  · have ebt : bt n B s = 0 := if_neg z
    rw [ebt] at hKe
    have k0 : K = 0 := hKe
    rw [if_neg z] at hEd
    rw [if_neg z, if_neg (by decide), nam_i]
    refine ⟨_, rfl, NXf_trans hN1 (NXf_u (by omega) (by omega) NXf_rfl), Or.inl ⟨fun q => absurd q z, ?_, ?_, ?_, ?_, fun q => by omega⟩⟩
    · simp (disch := omega) only [rd_e, pk_un]; exact q13'
    · simp (disch := omega) only [rd_e, pk_us, k0]; rfl
    · simp (disch := omega) only [rd_e, pk_un]; exact q10'
    · simp (disch := omega) only [rd_e, pk_un, hEd]; exact q9'
