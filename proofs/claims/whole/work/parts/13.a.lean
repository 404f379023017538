/-! stores alone: how the pictures' words are read -/
theorem nam_i {α β : Type} (a : α) (f : α → β) : nam a f = f a := Eq.trans rfl rfl
theorem ck_i {α : Type} (k : Option α) : ck true k = k := Eq.trans rfl rfl
theorem bd_i {α β : Type} (a : α) (s : St) (f : α → St → Option β) : bd (some (a, s)) f = f a s := Eq.trans rfl rfl
theorem fa_lit (n : Nat) : (OfNat.ofNat n : Int32) = nI (OfNat.ofNat n) := rfl
theorem fl_lit (n : Nat) : (OfNat.ofNat n : Int64) = lN (OfNat.ofNat n) := rfl
theorem inb_i {j n : Nat} (h : j < n) (hn : n < 2 ^ 31) : inb (nI j) n = true := decide_eq_true (nI_in h hn)
theorem inb_l {j n : Nat} (h : (OfNat.ofNat j : Nat) < n) (hn : n < 2 ^ 31) : inb (no_index (OfNat.ofNat j : Int32)) n = true := inb_i h hn
theorem i_la (c j : Nat) : (no_index (OfNat.ofNat c : Int32)) + nI j = nI ((OfNat.ofNat c : Nat) + j) := nI_add c j
theorem i_al (c j : Nat) : nI j + (no_index (OfNat.ofNat c : Int32)) = nI (j + (OfNat.ofNat c : Nat)) := nI_add j c
theorem i_lm (c j : Nat) : (no_index (OfNat.ofNat c : Int32)) * nI j = nI ((OfNat.ofNat c : Nat) * j) := pk_mul c j
theorem i_ml (c j : Nat) : nI j * (no_index (OfNat.ofNat c : Int32)) = nI (j * (OfNat.ofNat c : Nat)) := pk_mul j c
theorem i_le {a b : Nat} (ha : a < 2 ^ 31) (hb : b < 2 ^ 31) : (nI a ≤ nI b) = (a ≤ b) := propext (nI_leI ha hb)
theorem i_lt {a b : Nat} (ha : a < 2 ^ 31) (hb : b < 2 ^ 31) : (nI a < nI b) = (a < b) := propext (nI_ltI ha hb)
theorem i_eq {a b : Nat} (ha : a < 2 ^ 31) (hb : b < 2 ^ 31) : (nI a = nI b) = (a = b) := propext (nI_eq ha hb)
theorem i_lel {a b : Nat} (ha : (OfNat.ofNat a : Nat) < 2 ^ 31) (hb : b < 2 ^ 31) : ((no_index (OfNat.ofNat a : Int32)) ≤ nI b) = ((OfNat.ofNat a : Nat) ≤ b) := propext (nI_leI ha hb)
theorem i_ltl {a b : Nat} (ha : (OfNat.ofNat a : Nat) < 2 ^ 31) (hb : b < 2 ^ 31) : ((no_index (OfNat.ofNat a : Int32)) < nI b) = ((OfNat.ofNat a : Nat) < b) := propext (nI_ltI ha hb)
theorem i_ler {a b : Nat} (ha : a < 2 ^ 31) (hb : (OfNat.ofNat b : Nat) < 2 ^ 31) : (nI a ≤ (no_index (OfNat.ofNat b : Int32))) = (a ≤ (OfNat.ofNat b : Nat)) := propext (nI_leI ha hb)
theorem i_ltr {a b : Nat} (ha : a < 2 ^ 31) (hb : (OfNat.ofNat b : Nat) < 2 ^ 31) : (nI a < (no_index (OfNat.ofNat b : Int32))) = (a < (OfNat.ofNat b : Nat)) := propext (nI_ltI ha hb)
theorem i_eqr {a b : Nat} (ha : a < 2 ^ 31) (hb : (OfNat.ofNat b : Nat) < 2 ^ 31) : (nI a = (no_index (OfNat.ofNat b : Int32))) = (a = (OfNat.ofNat b : Nat)) := propext (nI_eq ha hb)
theorem i_nm4 {a : Nat} (ha : a < 2 ^ 31) : (nI a = (-4 : Int32)) = False := by
  apply eq_false
  intro h
  have := congrArg Int32.toInt h
  rw [nI_toInt ha] at this
  have e : (-4 : Int32).toInt = -4 := by decide
  omega
/-- a number from lo to hi -/
def IV (lo hi : Nat) (a : Int32) : Prop := ∃ j, lo ≤ j ∧ j ≤ hi ∧ a = nI j
theorem IV_of {lo hi : Nat} {a : Int32} (hl : lo < 2 ^ 31) (hh : hi < 2 ^ 31) (h1 : ¬ a < nI lo) (h2 : ¬ nI hi < a) : IV lo hi a := by
  rw [Int32.lt_iff_toInt_lt, nI_toInt hl] at h1
  rw [Int32.lt_iff_toInt_lt, nI_toInt hh] at h2
  refine ⟨a.toInt.toNat, by omega, by omega, ?_⟩
  apply Int32.toInt_inj.mp
  rw [nI_toInt (by omega)]
  omega
theorem IV_nlt {lo hi : Nat} {a : Int32} (hh : hi < 2 ^ 31) (h : IV lo hi a) : ¬ a < nI lo ∧ ¬ nI hi < a := by
  obtain ⟨j, h1, h2, rfl⟩ := h
  rw [i_lt (by omega) (by omega), i_lt (by omega) (by omega)]
  omega
theorem IV_up {hi : Nat} {a : Int32} (hh : hi + 1 < 2 ^ 31) : IV 0 hi a ↔ (¬ a < 0 ∧ ¬ nI (hi + 1) ≤ a) := by
  constructor
  · rintro ⟨j, h1, h2, rfl⟩
    rw [i_le (by omega) (by omega)]
    exact ⟨nI_pos (by omega), by omega⟩
  · rintro ⟨h1, h2⟩
    refine IV_of (by decide) (by omega) h1 ?_
    rw [Int32.lt_iff_toInt_lt, nI_toInt (by omega)]
    rw [Int32.le_iff_toInt_le, nI_toInt (by omega)] at h2
    omega
theorem x_wt {j lo hi : Nat} (h1 : (OfNat.ofNat lo : Nat) ≤ j) (h2 : j ≤ (OfNat.ofNat hi : Nat)) (h3 : (OfNat.ofNat hi : Nat) < 2 ^ 31) (σ : St) : F_X10_within (nI j) (no_index (OfNat.ofNat lo)) (no_index (OfNat.ofNat hi)) σ = some (1, σ) := by
  have h := IV_nlt h3 ⟨j, h1, h2, rfl⟩
  exact (if_neg h.1).trans (if_neg h.2)
theorem x_wfN {a : Int32} {lo hi : Nat} (h : ¬ IV lo hi a) (h3 : hi < 2 ^ 31) (hl : lo < 2 ^ 31) (σ : St) : F_X10_within a (nI lo) (nI hi) σ = some (0, σ) := by
  rw [F_X10_within]
  by_cases h1 : a < nI lo
  · rw [if_pos h1]
  · rw [if_neg h1]
    by_cases h2 : nI hi < a
    · rw [if_pos h2]
    · exact absurd (IV_of hl h3 h1 h2) h
theorem x_wf {a : Int32} {lo hi : Nat} (h : ¬ IV (OfNat.ofNat lo) (OfNat.ofNat hi) a) (h3 : (OfNat.ofNat hi : Nat) < 2 ^ 31) (hl : (OfNat.ofNat lo : Nat) < 2 ^ 31) (σ : St) : F_X10_within a (no_index (OfNat.ofNat lo)) (no_index (OfNat.ofNat hi)) σ = some (0, σ) := x_wfN h h3 hl σ
theorem l_lt (a b : Int32) : (a.toInt64 < b.toInt64) = (a < b) := by rw [Int64.lt_iff_toInt_lt, Int32.lt_iff_toInt_lt, Int32.toInt_toInt64, Int32.toInt_toInt64]
theorem m_inE (a b c : Int32) (σ : St) : F_X11_in a.toInt64 b.toInt64 c.toInt64 σ = if a < b then some (0, σ) else if c < a then some (0, σ) else some (1, σ) := by
  rw [F_X11_in]
  simp only [lg_cmp_lt, lg_cmp_gt, l_lt]
theorem m_inN {n k : Nat} (hn : n < 2 ^ 31) (hk : k < 2 ^ 31) (a : Int32) (σ : St) : F_X11_in a.toInt64 (lN n) (lN k) σ = if a < nI n then some (0, σ) else if nI k < a then some (0, σ) else some (1, σ) := by
  rw [← nI_l hn, ← nI_l hk, m_inE]
theorem m_wtN {j lo hi : Nat} (h1 : lo ≤ j) (h2 : j ≤ hi) (h3 : hi < 2 ^ 31) (σ : St) : F_X11_in (nI j).toInt64 (lN lo) (lN hi) σ = some (1, σ) := by
  have h := IV_nlt h3 ⟨j, h1, h2, rfl⟩
  rw [m_inN (by omega) h3, if_neg h.1, if_neg h.2]
theorem m_wfN {a : Int32} {lo hi : Nat} (h : ¬ IV lo hi a) (h3 : hi < 2 ^ 31) (hl : lo < 2 ^ 31) (σ : St) : F_X11_in a.toInt64 (lN lo) (lN hi) σ = some (0, σ) := by
  rw [m_inN hl h3]
  by_cases h1 : a < nI lo
  · rw [if_pos h1]
  · rw [if_neg h1]
    by_cases h2 : nI hi < a
    · rw [if_pos h2]
    · exact absurd (IV_of hl h3 h1 h2) h
theorem m_wt {j lo hi : Nat} (h1 : (OfNat.ofNat lo : Nat) ≤ j) (h2 : j ≤ (OfNat.ofNat hi : Nat)) (h3 : (OfNat.ofNat hi : Nat) < 2 ^ 31) (σ : St) : F_X11_in (nI j).toInt64 (no_index (OfNat.ofNat lo)) (no_index (OfNat.ofNat hi)) σ = some (1, σ) := m_wtN h1 h2 h3 σ
theorem m_wf {a : Int32} {lo hi : Nat} (h : ¬ IV (OfNat.ofNat lo) (OfNat.ofNat hi) a) (h3 : (OfNat.ofNat hi : Nat) < 2 ^ 31) (hl : (OfNat.ofNat lo : Nat) < 2 ^ 31) (σ : St) : F_X11_in a.toInt64 (no_index (OfNat.ofNat lo)) (no_index (OfNat.ofNat hi)) σ = some (0, σ) := m_wfN h h3 hl σ
/-- from 0 up to a number that is held -/
theorem x_vt {j n : Nat} (h : j ≤ n) (hn : n < 2 ^ 31) (σ : St) : F_X10_within (nI j) (0 : Int32) (nI n) σ = some (1, σ) := x_wt (lo := 0) (hi := n) (Nat.zero_le j) h hn σ
theorem x_vf {a : Int32} {n : Nat} (h : ¬ IV 0 n a) (hn : n < 2 ^ 31) (σ : St) : F_X10_within a (0 : Int32) (nI n) σ = some (0, σ) := x_wfN (lo := 0) h hn (by omega) σ
theorem m_vt {j n : Nat} (h : j ≤ n) (hn : n < 2 ^ 31) (σ : St) : F_X11_in (nI j).toInt64 (0 : Int64) (nI n).toInt64 σ = some (1, σ) := by
  rw [nI_l hn]; exact m_wtN (lo := 0) (Nat.zero_le j) h hn σ
theorem m_vf {a : Int32} {n : Nat} (h : ¬ IV 0 n a) (hn : n < 2 ^ 31) (σ : St) : F_X11_in a.toInt64 (0 : Int64) (nI n).toInt64 σ = some (0, σ) := by
  rw [nI_l hn]; exact m_wfN (lo := 0) h hn (by omega) σ
/-- from 0 up to one less than a number that is held -/
theorem m_dt {j n : Nat} (h : j < n) (hn : n < 2 ^ 31) (σ : St) : F_X11_in (nI j).toInt64 (0 : Int64) (nI n - 1).toInt64 σ = some (1, σ) := by
  obtain ⟨k, rfl⟩ : ∃ k, n = k + 1 := ⟨n - 1, by omega⟩
  rw [nI_pred]; exact m_vt (by omega) (by omega) σ
theorem m_df {a : Int32} {n : Nat} (h : ¬ ∃ j, j < n ∧ a = nI j) (hn : n < 2 ^ 31) (σ : St) : F_X11_in a.toInt64 (0 : Int64) (nI n - 1).toInt64 σ = some (0, σ) := by
  rcases Nat.eq_zero_or_pos n with q | q
  · subst q
    have e : (nI 0 - 1 : Int32) = -1 := by decide
    have e0 : (0 : Int64) = (0 : Int32).toInt64 := by decide
    rw [e, e0, m_inE]
    by_cases h1 : a < 0
    · rw [if_pos h1]
    · rw [if_neg h1, if_pos]
      rw [Int32.lt_iff_toInt_lt] at h1 ⊢
      have e1 : (-1 : Int32).toInt = -1 := by decide
      have e2 : (0 : Int32).toInt = 0 := by decide
      omega
  · obtain ⟨k, rfl⟩ : ∃ k, n = k + 1 := ⟨n - 1, by omega⟩
    rw [nI_pred]
    refine m_vf (fun ⟨j, _, h2, h3⟩ => h ⟨j, by omega, h3⟩) (by omega) σ
theorem x_cellt {c : Nat} (h : c < 96) (σ : St) : F_X10_isCell (nI c) σ = some (1, σ) := by
  have h2 := (IV_up (hi := 95) (by omega)).mp ⟨c, by omega, by omega, rfl⟩
  exact (if_neg h2.1).trans (if_neg h2.2)
theorem x_cellf {a : Int32} (h : ¬ IV 0 95 a) (σ : St) : F_X10_isCell a σ = some (0, σ) := by
  rw [F_X10_isCell]
  by_cases h1 : a < 0
  · rw [if_pos h1]
  · rw [if_neg h1]
    by_cases h2 : (96 : Int32) ≤ a
    · rw [if_pos h2]
    · exact absurd ((IV_up (hi := 95) (by omega)).mpr ⟨h1, h2⟩) h
theorem x_wayt {c : Nat} (h : c < 4) (σ : St) : F_X10_isWay (nI c) σ = some (1, σ) := by
  have h2 := (IV_up (hi := 3) (by omega)).mp ⟨c, by omega, by omega, rfl⟩
  exact (if_neg h2.1).trans (if_neg h2.2)
theorem x_wayf {a : Int32} (h : ¬ IV 0 3 a) (σ : St) : F_X10_isWay a σ = some (0, σ) := by
  rw [F_X10_isWay]
  by_cases h1 : a < 0
  · rw [if_pos h1]
  · rw [if_neg h1]
    by_cases h2 : (4 : Int32) ≤ a
    · rw [if_pos h2]
    · exact absurd ((IV_up (hi := 3) (by omega)).mpr ⟨h1, h2⟩) h
theorem x_heatt {c : Nat} (h : c < 100) (σ : St) : F_X10_isHeat (nI c) σ = some (1, σ) := by
  rw [F_X10_isHeat, x_wt (by omega) (by omega) (by omega), bd_i]; rfl
theorem x_heatf {a : Int32} (h : ¬ IV 0 99 a) (σ : St) : F_X10_isHeat a σ = some (0, σ) := by
  rw [F_X10_isHeat, x_wf h (by omega) (by omega), bd_i]; rfl
theorem x_sizet {c : Nat} (h : 1 ≤ c) (h2 : c ≤ 60) (σ : St) : F_X10_isSize (nI c) σ = some (1, σ) := by
  rw [F_X10_isSize, x_wt (by omega) (by omega) (by omega), bd_i]; rfl
theorem x_sizef {a : Int32} (h : ¬ IV 1 60 a) (σ : St) : F_X10_isSize a σ = some (0, σ) := by
  rw [F_X10_isSize, x_wf h (by omega) (by omega), bd_i]; rfl
theorem m_cellt {c : Nat} (h : c < 96) (σ : St) : F_X11_isCell (nI c) σ = some (1, σ) := by
  rw [F_X11_isCell, m_wt (by omega) (by omega) (by omega), bd_i]; rfl
theorem m_cellf {a : Int32} (h : ¬ IV 0 95 a) (σ : St) : F_X11_isCell a σ = some (0, σ) := by
  rw [F_X11_isCell, m_wf h (by omega) (by omega), bd_i]; rfl
theorem m_heatt {c : Nat} (h : c < 100) (σ : St) : F_X11_isHeat (nI c) σ = some (1, σ) := by
  rw [F_X11_isHeat, m_wt (by omega) (by omega) (by omega), bd_i]; rfl
theorem m_heatf {a : Int32} (h : ¬ IV 0 99 a) (σ : St) : F_X11_isHeat a σ = some (0, σ) := by
  rw [F_X11_isHeat, m_wf h (by omega) (by omega), bd_i]; rfl
theorem m_sizet {c : Nat} (h : 1 ≤ c) (h2 : c ≤ 60) (σ : St) : F_X11_isSize (nI c) σ = some (1, σ) := by
  rw [F_X11_isSize, m_wt (by omega) (by omega) (by omega), bd_i]; rfl
theorem m_sizef {a : Int32} (h : ¬ IV 1 60 a) (σ : St) : F_X11_isSize a σ = some (0, σ) := by
  rw [F_X11_isSize, m_wf h (by omega) (by omega), bd_i]; rfl
theorem m_lifet {c : Nat} (h : c < 1000) (σ : St) : F_X11_isLife (nI c) σ = some (1, σ) := by
  rw [F_X11_isLife, m_wt (by omega) (by omega) (by omega), bd_i]; rfl
theorem m_lifef {a : Int32} (h : ¬ IV 0 999 a) (σ : St) : F_X11_isLife a σ = some (0, σ) := by
  rw [F_X11_isLife, m_wf h (by omega) (by omega), bd_i]; rfl
/-- a drop that may be set -/
def DT (c s w : Int32) : Prop := IV 0 95 c ∧ IV 1 60 s ∧ IV 0 3 w
theorem x_dtt {c s w : Nat} (h : c < 96) (h1 : 1 ≤ s) (h2 : s ≤ 60) (h3 : w < 4) (σ : St) : F_X10_isDropToBe (nI c) (nI s) (nI w) σ = some (1, σ) := by
  rw [F_X10_isDropToBe, x_cellt h, bd_i, if_neg (by decide), x_sizet h1 h2, bd_i, if_neg (by decide), x_wayt h3, bd_i, if_neg (by decide)]
theorem x_dtf {c s w : Int32} (h : ¬ DT c s w) (σ : St) : F_X10_isDropToBe c s w σ = some (0, σ) := by
  rw [F_X10_isDropToBe]
  by_cases h1 : IV 0 95 c
  · obtain ⟨j, _, h1', rfl⟩ := h1
    rw [x_cellt (by omega), bd_i, if_neg (by decide)]
    by_cases h2 : IV 1 60 s
    · obtain ⟨j2, h20, h2', rfl⟩ := h2
      rw [x_sizet h20 h2', bd_i, if_neg (by decide)]
      by_cases h3 : IV 0 3 w
      · exact absurd ⟨⟨j, by omega, h1', rfl⟩, ⟨j2, h20, h2', rfl⟩, h3⟩ h
      · rw [x_wayf h3, bd_i, if_pos rfl]
    · rw [x_sizef h2, bd_i, if_pos rfl]
  · rw [x_cellf h1, bd_i, if_pos rfl]
theorem m_dtt {c s w : Nat} (h : c < 96) (h1 : 1 ≤ s) (h2 : s ≤ 60) (h3 : w < 4) (σ : St) : F_X11_isDrop (nI c) (nI s) (nI w) σ = some (1, σ) := by
  rw [F_X11_isDrop, m_cellt h, bd_i, if_neg (by decide), m_wt h1 h2 (by omega), bd_i, if_neg (by decide), m_wt (by omega) (by omega) (by omega), bd_i, if_neg (by decide)]
theorem m_dtf {c s w : Int32} (h : ¬ DT c s w) (σ : St) : F_X11_isDrop c s w σ = some (0, σ) := by
  rw [F_X11_isDrop]
  by_cases h1 : IV 0 95 c
  · obtain ⟨j, _, h1', rfl⟩ := h1
    rw [m_cellt (by omega), bd_i, if_neg (by decide)]
    by_cases h2 : IV 1 60 s
    · obtain ⟨j2, h20, h2', rfl⟩ := h2
      rw [m_wt h20 h2' (by omega), bd_i, if_neg (by decide)]
      by_cases h3 : IV 0 3 w
      · exact absurd ⟨⟨j, by omega, h1', rfl⟩, ⟨j2, h20, h2', rfl⟩, h3⟩ h
      · rw [m_wf h3 (by omega) (by omega), bd_i, if_pos rfl]
    · rw [m_wf h2 (by omega) (by omega), bd_i, if_pos rfl]
  · rw [m_cellf h1, bd_i, if_pos rfl]
