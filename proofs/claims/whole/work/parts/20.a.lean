/-! the text: its tokens -/
def kdB (c : Nat) : Nat := if 97 ≤ c ∧ c ≤ 122 then 1 else if 48 ≤ c ∧ c ≤ 57 then 2 else if c = 59 then 3 else 0
def bt (n : Nat) (B : Nat → Nat) (j : Nat) : Nat := if j < n then B j else 0
/-- past the blanks -/
def skp (n : Nat) (B : Nat → Nat) : Nat → Nat → Nat
  | 0, p => p
  | k + 1, p => if B p = 32 then skp n B k (p + 1) else p
/-- past the bytes of one kind -/
def runK (B : Nat → Nat) (K : Nat) : Nat → Nat → Nat
  | 0, p => p
  | k + 1, p => if kdB (B p) = K then runK B K k (p + 1) else p
theorem skp_b {n : Nat} {B : Nat → Nat} : ∀ k p, p ≤ skp n B k p ∧ skp n B k p ≤ p + k := by
  intro k
  induction k with
  | zero => intro p; exact ⟨Nat.le_refl _, Nat.le_refl _⟩
  | succ k ih =>
    intro p
    rw [skp]
    have := ih (p + 1)
    split <;> omega
theorem run_b {B : Nat → Nat} {K : Nat} : ∀ k p, p ≤ runK B K k p ∧ runK B K k p ≤ p + k := by
  intro k
  induction k with
  | zero => intro p; exact ⟨Nat.le_refl _, Nat.le_refl _⟩
  | succ k ih =>
    intro p
    rw [runK]
    have := ih (p + 1)
    split <;> omega
theorem run_in {B : Nat → Nat} {K : Nat} : ∀ k p j, p ≤ j → j < runK B K k p → kdB (B j) = K := by
  intro k
  induction k with
  | zero => intro p j h1 h2; rw [runK] at h2; omega
  | succ k ih =>
    intro p j h1 h2
    rw [runK] at h2
    split at h2
    · rename_i h
      rcases Nat.lt_or_ge p j with q | q
      · exact ih (p + 1) j q h2
      · rw [show j = p by omega]; exact h
    · omega
/-- the token from place p on: where it begins, of which kind it is, where it ends -/
def tS (n : Nat) (B : Nat → Nat) (p : Nat) : Nat := skp n B (n - p) p
def tK (n : Nat) (B : Nat → Nat) (p : Nat) : Nat := kdB (bt n B (tS n B p))
def tE (n : Nat) (B : Nat → Nat) (p : Nat) : Nat := if tS n B p < n then (if tK n B p = 3 then tS n B p + 1 else runK B (tK n B p) (n - (tS n B p + 1)) (tS n B p + 1)) else tS n B p
def tOk (n : Nat) (B : Nat → Nat) (p : Nat) : Prop := tS n B p < n → (tK n B p ≠ 0 ∧ (tK n B p = 2 → tE n B p - tS n B p ≤ 2))
section TB
variable {n : Nat} {B : Nat → Nat} {p : Nat}
theorem tS_b (hp : p ≤ n) : p ≤ tS n B p ∧ tS n B p ≤ n := by
  have := skp_b (n := n) (B := B) (n - p) p
  unfold tS
  omega
theorem tE_b (hp : p ≤ n) : tS n B p ≤ tE n B p ∧ tE n B p ≤ n ∧ (tS n B p < n → tS n B p < tE n B p) := by
  have h1 := tS_b (B := B) hp
  unfold tE
  generalize tS n B p = s at *
  have h2 := run_b (B := B) (K := tK n B p) (n - (s + 1)) (s + 1)
  by_cases z : s < n
  · rw [if_pos z]
    split <;> omega
  · rw [if_neg z]
    omega
end TB
/-- the class's tape is B -/
def TXb (n : Nat) (B : Nat → Nat) (x : St) : Prop := n ≤ 320 ∧ ∀ j, j < n → B j < 256 ∧ x.1 (1, 0, 0) j &&& 255 = nI (B j)
theorem bt_b {n : Nat} {B : Nat → Nat} {x : St} (h : TXb n B x) (j : Nat) : bt n B j < 256 := by
  unfold bt
  split
  · exact (h.2 j (by assumption)).1
  · omega
theorem KX_1 {x σ : St} (h : KX x σ) : σ.1 (1, 0, 0) = x.1 (1, 0, 0) := h _ (Or.inl (Or.inr (Or.inl rfl)))
theorem TX_K {n : Nat} {B : Nat → Nat} {x σ : St} (h : TXb n B x) (hK : KX x σ) : TXb n B σ := ⟨h.1, fun j hj => by rw [KX_1 hK]; exact h.2 j hj⟩
theorem x_byte {n : Nat} {B : Nat → Nat} {σ : St} {j : Nat} (h : TXb n B σ) (h4 : σ.1 (2, 0, 0) 4 = nI n) (hj : j < 2 ^ 31) : F_X8_byteAt (nI j) σ = some (nI (bt n B j), σ) := by
  have p : ¬ nI j < 0 := nI_pos hj
  have hn := h.1
  unfold bt
  by_cases z : j < n
  · have z1 : ¬ n ≤ j := by omega
    have z2 : ¬ 320 ≤ j := by omega
    have e := (h.2 j z).2
    simp (disch := omega) only [F_X8_byteAt, p, h4, i_le, i_lel, z1, z2, ↓reduceIte, inb_i, ck_i, nI_clamp, e, z]
  · have z1 : n ≤ j := by omega
    simp (disch := omega) only [F_X8_byteAt, p, h4, i_le, z1, ↓reduceIte, z]
    rfl
theorem x_kindB {σ : St} {c : Nat} (hc : c < 256) : F_X8_kindOf (nI c) σ = some (nI (kdB c), σ) := by
  unfold kdB
  by_cases h1 : c < 97
  · have n1 : ¬ (97 ≤ c ∧ c ≤ 122) := by omega
    by_cases h2 : c < 48
    · have n2 : ¬ (48 ≤ c ∧ c ≤ 57) := by omega
      have n3 : ¬ c = 59 := by omega
      simp (disch := omega) only [F_X8_kindOf, i_ltr, i_ltl, i_eqr, h1, h2, n1, n2, n3, ↓reduceIte]
      rfl
    · by_cases h3 : 57 < c
      · have n2 : ¬ (48 ≤ c ∧ c ≤ 57) := by omega
        by_cases h4 : c = 59
        · subst h4; rfl
        · simp (disch := omega) only [F_X8_kindOf, i_ltr, i_ltl, i_eqr, h1, h2, h3, n1, n2, h4, ↓reduceIte]
          rfl
      · have n2 : 48 ≤ c ∧ c ≤ 57 := by omega
        simp (disch := omega) only [F_X8_kindOf, i_ltr, i_ltl, i_eqr, h1, h2, h3, n1, n2, ↓reduceIte, and_self]
        rfl
  · by_cases h5 : 122 < c
    · have n1 : ¬ (97 ≤ c ∧ c ≤ 122) := by omega
      have h2 : ¬ c < 48 := by omega
      have h3 : 57 < c := by omega
      have n2 : ¬ (48 ≤ c ∧ c ≤ 57) := by omega
      have h4 : ¬ c = 59 := by omega
      simp (disch := omega) only [F_X8_kindOf, i_ltr, i_ltl, i_eqr, h1, h5, h2, h3, n1, n2, h4, ↓reduceIte]
      rfl
    · have n1 : 97 ≤ c ∧ c ≤ 122 := by omega
      simp (disch := omega) only [F_X8_kindOf, i_ltr, i_ltl, h1, h5, n1, ↓reduceIte, and_self]
      rfl
theorem kdB_b (c : Nat) : kdB c ≤ 3 := by
  unfold kdB
  split
  · omega
  · split
    · omega
    · split <;> omega
theorem x_skip {n : Nat} {B : Nat → Nat} (kx : St → Option (Unit × St)) : ∀ (k p fu : Nat) (σ : St), p + k = n → k < fu → TXb n B σ → σ.1 (2, 0, 0) 4 = nI n → σ.1 (2, 0, 0) 5 = nI p → L_X8_readToken_0 fu σ kx = kx (uI σ (2, 0, 0) 5 (nI (skp n B k p))) := by
  intro k
  induction k with
  | zero =>
    intro p fu σ hk hf hT h4 h5
    obtain ⟨f, rfl⟩ : ∃ f, fu = f + 1 := ⟨fu - 1, by omega⟩
    have hn := hT.1
    have z : n ≤ p := by omega
    rw [skp, ← h5, uI_id]
    simp (disch := omega) only [L_X8_readToken_0, h4, h5, i_le, z, ↓reduceIte]
  | succ k ih =>
    intro p fu σ hk hf hT h4 h5
    obtain ⟨f, rfl⟩ : ∃ f, fu = f + 1 := ⟨fu - 1, by omega⟩
    have hn := hT.1
    have z : ¬ n ≤ p := by omega
    have hb := x_byte (j := p) hT h4 (by omega)
    have eb : bt n B p = B p := if_pos (by omega)
    have hB := (hT.2 p (by omega)).1
    rw [eb] at hb
    rw [skp]
    by_cases z2 : B p = 32
    · rw [if_pos z2]
      have := ih (p + 1) f (uI σ (2, 0, 0) 5 (nI (p + 1))) (by omega) (by omega) ⟨hT.1, fun j hj => by rw [rd_t (by omega)]; exact hT.2 j hj⟩ (by rw [rd_e, pk_un (by omega)]; exact h4) (by rw [rd_e, pk_us])
      rw [uI_uI] at this
      rw [← this, L_X8_readToken_0.eq_2]
      simp (disch := omega) only [h4, h5, i_le, z, ↓reduceIte, hb, bd_i, i_eqr, z2, nam_i, i_al]
    · rw [if_neg z2, ← h5, uI_id, L_X8_readToken_0.eq_2]
      simp (disch := omega) only [h4, h5, i_le, z, ↓reduceIte, hb, bd_i, i_eqr, z2]
theorem x_run {n : Nat} {B : Nat → Nat} {K : Nat} (hK : K ≤ 3) (hK3 : K ≠ 3) (kx : St → Option (Unit × St)) : ∀ (k p fu : Nat) (σ : St), p + k = n → k < fu → TXb n B σ → σ.1 (2, 0, 0) 4 = nI n → σ.1 (2, 0, 0) 7 = nI K → σ.1 (2, 0, 0) 5 = nI p → L_X8_readToken_82 fu σ kx = kx (uI σ (2, 0, 0) 5 (nI (runK B K k p))) := by
  intro k
  induction k with
  | zero =>
    intro p fu σ hk hf hT h4 h7 h5
    obtain ⟨f, rfl⟩ : ∃ f, fu = f + 1 := ⟨fu - 1, by omega⟩
    have hn := hT.1
    have z : n ≤ p := by omega
    rw [runK, ← h5, uI_id]
    simp (disch := omega) only [L_X8_readToken_82, h4, h5, i_le, z, ↓reduceIte]
  | succ k ih =>
    intro p fu σ hk hf hT h4 h7 h5
    obtain ⟨f, rfl⟩ : ∃ f, fu = f + 1 := ⟨fu - 1, by omega⟩
    have hn := hT.1
    have z : ¬ n ≤ p := by omega
    have hb := x_byte (j := p) hT h4 (by omega)
    have eb : bt n B p = B p := if_pos (by omega)
    have hB := (hT.2 p (by omega)).1
    have hkb := kdB_b (B p)
    rw [eb] at hb
    have hkk := x_kindB (σ := σ) hB
    rw [runK]
    by_cases z2 : kdB (B p) = K
    · rw [if_pos z2]
      have := ih (p + 1) f (uI σ (2, 0, 0) 5 (nI (p + 1))) (by omega) (by omega) ⟨hT.1, fun j hj => by rw [rd_t (by omega)]; exact hT.2 j hj⟩ (by rw [rd_e, pk_un (by omega)]; exact h4) (by rw [rd_e, pk_un (by omega)]; exact h7) (by rw [rd_e, pk_us])
      rw [uI_uI] at this
      rw [← this, L_X8_readToken_82.eq_2]
      simp (disch := omega) only [h4, h5, h7, i_le, z, ↓reduceIte, i_eqr, hK3, hb, bd_i, hkk, i_eq, z2, nam_i, i_al]
    · rw [if_neg z2, ← h5, uI_id, L_X8_readToken_82.eq_2]
      simp (disch := omega) only [h4, h5, h7, i_le, z, ↓reduceIte, i_eqr, hK3, hb, bd_i, hkk, i_eq, z2]
/-- the class's reader, a token read -/
def tkX (σ : St) (s K e : Nat) : St := uI (uI (uI (uI σ (2, 0, 0) 5 (nI s)) (2, 0, 0) 8 (nI s)) (2, 0, 0) 7 (nI K)) (2, 0, 0) 5 (nI e)
def ftX (σ : St) (ft pl : Nat) : St := uI (uI σ (2, 0, 0) 10 (nI ft)) (2, 0, 0) 11 (nI pl)
theorem x_refuse {σ : St} {ft pl : Nat} (h : σ.1 (2, 0, 0) 10 = 0) : F_X8_refuse (nI ft) (nI pl) σ = some ((), ftX σ ft pl) := by
  simp only [F_X8_refuse, h, ↓reduceIte, nam_i, ftX]
theorem K_2 {x σ : St} {k : Nat} {v : Int32} (h : KX x σ) : KX x (uI σ (2, 0, 0) k v) := KX_u (Or.inl ⟨by omega, by omega⟩) h
theorem K_tk {x σ : St} {s K e : Nat} (h : KX x σ) : KX x (tkX σ s K e) := K_2 (K_2 (K_2 (K_2 h)))
theorem K_ft {x σ : St} {ft pl : Nat} (h : KX x σ) : KX x (ftX σ ft pl) := K_2 (K_2 h)
theorem tk_5 {σ : St} {s K e : Nat} : (tkX σ s K e).1 (2, 0, 0) 5 = nI e := by unfold tkX; simp (disch := omega) only [rd_e, pk_un, pk_us]
theorem tk_7 {σ : St} {s K e : Nat} : (tkX σ s K e).1 (2, 0, 0) 7 = nI K := by unfold tkX; simp (disch := omega) only [rd_e, pk_un, pk_us]
theorem tk_8 {σ : St} {s K e : Nat} : (tkX σ s K e).1 (2, 0, 0) 8 = nI s := by unfold tkX; simp (disch := omega) only [rd_e, pk_un, pk_us]
theorem tk_k {σ : St} {s K e k : Nat} (h5 : k ≠ 5) (h7 : k ≠ 7) (h8 : k ≠ 8) : (tkX σ s K e).1 (2, 0, 0) k = σ.1 (2, 0, 0) k := by unfold tkX; simp (disch := omega) only [rd_e, pk_un]
theorem tk_o {σ : St} {s K e a b c : Nat} (h : a ≠ 2) : (tkX σ s K e).1 (a, b, c) = σ.1 (a, b, c) := by unfold tkX; simp (disch := omega) only [rd_t]
theorem ft_10 {σ : St} {ft pl : Nat} : (ftX σ ft pl).1 (2, 0, 0) 10 = nI ft := by unfold ftX; simp (disch := omega) only [rd_e, pk_un, pk_us]
theorem ft_11 {σ : St} {ft pl : Nat} : (ftX σ ft pl).1 (2, 0, 0) 11 = nI pl := by unfold ftX; simp (disch := omega) only [rd_e, pk_us]
/-- the class has met a fault -/
def FX (x σ : St) (ft pl : Nat) : Prop := KX x σ ∧ σ.1 (2, 0, 0) 10 = nI ft ∧ σ.1 (2, 0, 0) 11 = nI pl ∧ 1 ≤ ft ∧ ft ≤ 6 ∧ pl ≤ 320
theorem FX_ft {x σ : St} {ft pl : Nat} (h : KX x σ) (h1 : 1 ≤ ft) (h2 : ft ≤ 6) (h3 : pl ≤ 320) : FX x (ftX σ ft pl) ft pl := ⟨K_ft h, ft_10, ft_11, h1, h2, h3⟩
theorem x_tok {n : Nat} {B : Nat → Nat} {p : Nat} {x σ : St} (hp : p ≤ n) (hX : KX x σ) (hTx : TXb n B x) (h4 : σ.1 (2, 0, 0) 4 = nI n) (h5 : σ.1 (2, 0, 0) 5 = nI p) (h10 : σ.1 (2, 0, 0) 10 = 0) : (tOk n B p ∧ F_X8_readToken σ = some ((), tkX σ (tS n B p) (tK n B p) (tE n B p))) ∨ (¬ tOk n B p ∧ ∃ σ', F_X8_readToken σ = some ((), σ') ∧ FX x σ' 1 (tS n B p)) := by
  have hT := TX_K hTx hX
  have hn := hT.1
  obtain ⟨b1, b2⟩ := tS_b (B := B) hp
  have eS : skp n B (n - p) p = tS n B p := rfl
  have L0 := fun kx => x_skip kx (n - p) p FU σ (by omega) (by unfold FU; omega) hT h4 h5
  rw [eS] at L0
  have hbb := bt_b hT (tS n B p)
  have hKe : kdB (bt n B (tS n B p)) = tK n B p := rfl
  have hK3 := kdB_b (bt n B (tS n B p))
  rw [hKe] at hK3
  have hE := tE_b (B := B) hp
  have hEd : tE n B p = if tS n B p < n then (if tK n B p = 3 then tS n B p + 1 else runK B (tK n B p) (n - (tS n B p + 1)) (tS n B p + 1)) else tS n B p := rfl
  have hOk : tOk n B p = (tS n B p < n → (tK n B p ≠ 0 ∧ (tK n B p = 2 → tE n B p - tS n B p ≤ 2))) := rfl
  rw [hOk]
  generalize hs : tS n B p = s at *
  generalize hKK : tK n B p = K at *
  generalize hee : tE n B p = e at *
  have hT2 : ∀ (σ' : St), σ'.1 (1, 0, 0) = σ.1 (1, 0, 0) → TXb n B σ' := fun σ' q => ⟨hT.1, fun j hj => by rw [q]; exact hT.2 j hj⟩
  have q8 : (uI (uI σ (2, 0, 0) 5 (nI s)) (2, 0, 0) 8 (nI s)).1 (2, 0, 0) 8 = nI s := by simp (disch := omega) only [rd_e, pk_us]
  have q5 : (uI σ (2, 0, 0) 5 (nI s)).1 (2, 0, 0) 5 = nI s := by simp (disch := omega) only [rd_e, pk_us]
  have hb := x_byte (σ := uI (uI σ (2, 0, 0) 5 (nI s)) (2, 0, 0) 8 (nI s)) (j := s) (hT2 _ (by simp (disch := omega) only [rd_t])) (by simp (disch := omega) only [rd_e, pk_un]; exact h4) (by omega)
  have hk := x_kindB (σ := uI (uI σ (2, 0, 0) 5 (nI s)) (2, 0, 0) 8 (nI s)) hbb
  rw [hKe] at hk
  have r8 : (uI (uI (uI σ (2, 0, 0) 5 (nI s)) (2, 0, 0) 8 (nI s)) (2, 0, 0) 7 (nI K)).1 (2, 0, 0) 8 = nI s := by simp (disch := omega) only [rd_e, pk_un, pk_us]
  have r4 : (uI (uI (uI σ (2, 0, 0) 5 (nI s)) (2, 0, 0) 8 (nI s)) (2, 0, 0) 7 (nI K)).1 (2, 0, 0) 4 = nI n := by simp (disch := omega) only [rd_e, pk_un]; exact h4
  have r5 : (uI (uI (uI σ (2, 0, 0) 5 (nI s)) (2, 0, 0) 8 (nI s)) (2, 0, 0) 7 (nI K)).1 (2, 0, 0) 5 = nI s := by simp (disch := omega) only [rd_e, pk_un, pk_us]
  rw [F_X8_readToken, L0, nam_i, q5, q8, hb, bd_i, hk, bd_i, nam_i, r8, r4, r5]
  by_cases z : s < n
  · rw [if_pos (nI_lt z (by omega)), nam_i, i_al]
    rw [if_pos z] at hEd
    have fin : ∀ e', L_X8_readToken_82 FU (uI (uI (uI (uI σ (2, 0, 0) 5 (nI s)) (2, 0, 0) 8 (nI s)) (2, 0, 0) 7 (nI K)) (2, 0, 0) 5 (nI (s + 1))) = (fun kx => kx (tkX σ s K e')) → e' = e → ((s < n → K ≠ 0 ∧ (K = 2 → e - s ≤ 2)) ∧ (L_X8_readToken_82  FU  (uI (uI (uI (uI σ (2, 0, 0) 5 (nI s)) (2, 0, 0) 8 (nI s)) (2, 0, 0) 7 (nI K)) (2, 0, 0) 5 (nI (s + 1))) (fun  (σ27 : St) => (if (σ27.1 (2, 0, 0) 7) = 0 then bd (F_X8_refuse (1 : Int32) (σ27.1 (2, 0, 0) 8) σ27) fun _ σ28 => some ((), σ28) else (if (σ27.1 (2, 0, 0) 7) = (2 : Int32) then (if ((σ27.1 (2, 0, 0) 5) - (σ27.1 (2, 0, 0) 8)) ≤ (2 : Int32) then some ((), σ27) else bd (F_X8_refuse (1 : Int32) (σ27.1 (2, 0, 0) 8) σ27) fun _ σ30 => some ((), σ30)) else some ((), σ27))))) = some ((), tkX σ s K e)) ∨ (¬ (s < n → K ≠ 0 ∧ (K = 2 → e - s ≤ 2)) ∧ ∃ σ', (L_X8_readToken_82  FU  (uI (uI (uI (uI σ (2, 0, 0) 5 (nI s)) (2, 0, 0) 8 (nI s)) (2, 0, 0) 7 (nI K)) (2, 0, 0) 5 (nI (s + 1))) (fun  (σ27 : St) => (if (σ27.1 (2, 0, 0) 7) = 0 then bd (F_X8_refuse (1 : Int32) (σ27.1 (2, 0, 0) 8) σ27) fun _ σ28 => some ((), σ28) else (if (σ27.1 (2, 0, 0) 7) = (2 : Int32) then (if ((σ27.1 (2, 0, 0) 5) - (σ27.1 (2, 0, 0) 8)) ≤ (2 : Int32) then some ((), σ27) else bd (F_X8_refuse (1 : Int32) (σ27.1 (2, 0, 0) 8) σ27) fun _ σ30 => some ((), σ30)) else some ((), σ27))))) = some ((), σ') ∧ FX x σ' 1 s) := by
      intro e' hL he
      subst he
      rw [hL]
      have ref : F_X8_refuse (1 : Int32) (nI s) (tkX σ s K e') = some ((), ftX (tkX σ s K e') 1 s) := x_refuse (ft := 1) (by rw [tk_k (by omega) (by omega) (by omega)]; exact h10)
      have hF : FX x (ftX (tkX σ s K e') 1 s) 1 s := FX_ft (K_tk hX) (by omega) (by omega) (by omega)
      simp only [tk_7, tk_8, tk_5]
      by_cases k0 : K = 0
      · right
        refine ⟨fun q => (q z).1 k0, _, ?_, hF⟩
        rw [if_pos (by rw [k0]; rfl), ref, bd_i]
      · have k0' : ¬ nI K = 0 := nI_ne0 (by omega) (by omega)
        by_cases k2 : K = 2
        · have k2' : nI K = 2 := by rw [k2]; rfl
          rw [if_neg k0', if_pos k2', pk_sub (by omega)]
          by_cases hl : e' - s ≤ 2
          · left
            refine ⟨fun _ => ⟨k0, fun _ => hl⟩, ?_⟩
            rw [if_pos (by rw [i_ler (by omega) (by decide)]; exact hl)]
          · right
            refine ⟨fun q => hl ((q z).2 k2), _, ?_, hF⟩
            rw [if_neg (by rw [i_ler (by omega) (by decide)]; exact hl), ref, bd_i]
        · have k2' : ¬ nI K = 2 := by rw [i_eqr (by omega) (by decide)]; exact k2
          left
          refine ⟨fun _ => ⟨k0, fun q => absurd q k2⟩, ?_⟩
          rw [if_neg k0', if_neg k2']
    by_cases k3 : K = 3
    · rw [if_pos k3] at hEd
      refine fin (s + 1) ?_ hEd.symm
      funext kx
      have q7 : (uI (uI (uI (uI σ (2, 0, 0) 5 (nI s)) (2, 0, 0) 8 (nI s)) (2, 0, 0) 7 (nI K)) (2, 0, 0) 5 (nI (s + 1))).1 (2, 0, 0) 7 = 3 := by simp (disch := omega) only [rd_e, pk_un, pk_us, k3]; rfl
      rw [show FU = 999 + 1 from rfl, L_X8_readToken_82.eq_2, q7]
      simp only [↓reduceIte, ite_self]
      rfl
    · rw [if_neg k3] at hEd
      refine fin (runK B K (n - (s + 1)) (s + 1)) ?_ hEd.symm
      funext kx
      have := x_run (K := K) hK3 k3 kx (n - (s + 1)) (s + 1) FU (uI (uI (uI (uI σ (2, 0, 0) 5 (nI s)) (2, 0, 0) 8 (nI s)) (2, 0, 0) 7 (nI K)) (2, 0, 0) 5 (nI (s + 1))) (by omega) (by unfold FU; omega) (hT2 _ (by simp (disch := omega) only [rd_t])) (by simp (disch := omega) only [rd_e, pk_un]; exact h4) (by simp (disch := omega) only [rd_e, pk_un, pk_us]) (by simp (disch := omega) only [rd_e, pk_us])
      rw [this, uI_uI]
      rfl
  · left
    refine ⟨fun q => absurd q z, ?_⟩
    rw [if_neg (nI_nlt (by omega) (by omega))]
    rw [if_neg z] at hEd
    rw [hEd]
    unfold tkX
    have := uI_id (σ := uI (uI (uI σ (2, 0, 0) 5 (nI s)) (2, 0, 0) 8 (nI s)) (2, 0, 0) 7 (nI K)) (d := (2, 0, 0)) (k := 5)
    rw [r5] at this
    rw [this]
