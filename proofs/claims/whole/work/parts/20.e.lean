/-! the text: names -/
def lnT (q : Nat) : Nat := [3, 8, 2, 4, 5, 4, 7, 4, 4, 4, 0].getD q 0
def chT (q i : Nat) : Nat := ([[114, 111, 119], [110, 101, 115, 119, 112, 120, 111, 99], [117, 112], [100, 111, 119, 110], [116, 101, 101, 116, 104], [108, 101, 97, 112], [99, 104, 105, 109, 110, 101, 121], [104, 105, 115, 115], [102, 105, 108, 109], [114, 111, 108, 108], []].getD q []).getD i 0
def eqF (B : Nat → Nat) (s q : Nat) : Nat → Nat → Bool
  | 0, _ => true
  | k + 1, i => decide (B (s + i) = chT q i) && eqF B s q k (i + 1)
def isX (B : Nat → Nat) (s e q : Nat) : Bool := decide (e - s = lnT q) && eqF B s q (lnT q) 0
def nmN (B : Nat → Nat) (s e : Nat) : Int32 := if isX B s e 0 then 20 else if isX B s e 2 then 0 else if isX B s e 3 then 1 else if isX B s e 4 then 2 else if isX B s e 5 then 4 else if isX B s e 6 then 5 else if isX B s e 7 then 6 else if isX B s e 8 then 7 else if isX B s e 9 then 8 else -4
theorem isX_n {B : Nat → Nat} {s e q : Nat} (h : ¬ e - s = lnT q) : isX B s e q = false := by
  unfold isX
  rw [decide_eq_false h, Bool.false_and]
theorem x_len {q : Nat} {σ : St} (h : q < 11) : F_J0_length_8abf5 q σ = some (nI (lnT q), σ) := by
  have : q = 0 ∨ q = 1 ∨ q = 2 ∨ q = 3 ∨ q = 4 ∨ q = 5 ∨ q = 6 ∨ q = 7 ∨ q = 8 ∨ q = 9 ∨ q = 10 := by omega
  rcases this with rfl | rfl | rfl | rfl | rfl | rfl | rfl | rfl | rfl | rfl | rfl <;> rfl
theorem x_char {q i : Nat} {σ : St} (h : q < 11) (h1 : q ≠ 1) (hi : i < lnT q) : F_J0_charAt_5068e q (nI i) σ = some (nI (chT q i), σ) := by
  have hq : q = 0 ∨ q = 2 ∨ q = 3 ∨ q = 4 ∨ q = 5 ∨ q = 6 ∨ q = 7 ∨ q = 8 ∨ q = 9 ∨ q = 10 := by omega
  have hb : lnT q ≤ 7 := by rcases hq with rfl | rfl | rfl | rfl | rfl | rfl | rfl | rfl | rfl | rfl <;> decide
  have hi7 : i = 0 ∨ i = 1 ∨ i = 2 ∨ i = 3 ∨ i = 4 ∨ i = 5 ∨ i = 6 := by omega
  rcases hq with rfl | rfl | rfl | rfl | rfl | rfl | rfl | rfl | rfl | rfl <;> rcases hi7 with rfl | rfl | rfl | rfl | rfl | rfl | rfl <;> first | rfl | (exfalso; revert hi; decide)
theorem x_isNL {n : Nat} {B : Nat → Nat} {x σ : St} {s e q : Nat} (hT : TXb n B x) (hX : KX x σ) (h4 : σ.1 (2, 0, 0) 4 = nI n) (h8 : σ.1 (2, 0, 0) 8 = nI s) (he : e ≤ n) (hq : q < 11) (hq1 : q ≠ 1) (hl : e - s = lnT q) (hse : s ≤ e) : ∀ (k i fu : Nat), i + k = lnT q → k < fu → L_X8_isName_28 q fu (nI i) σ = some (if eqF B s q k i then 1 else 0, σ) := by
  have hn := hT.1
  have dq : decide (q < 11) = true := decide_eq_true hq
  intro k
  induction k with
  | zero =>
    intro i fu hk hf
    obtain ⟨f, rfl⟩ : ∃ f, fu = f + 1 := ⟨fu - 1, by omega⟩
    have z : lnT q ≤ i := by omega
    simp (disch := omega) only [L_X8_isName_28, dq, ck_i, x_len hq, bd_i, i_le, z, ↓reduceIte, eqF]
  | succ k ih =>
    intro i fu hk hf
    obtain ⟨f, rfl⟩ : ∃ f, fu = f + 1 := ⟨fu - 1, by omega⟩
    have z : ¬ lnT q ≤ i := by omega
    have hb := x_byte (j := s + i) (TX_K hT hX) h4 (by omega)
    have eb : bt n B (s + i) = B (s + i) := if_pos (by omega)
    rw [eb] at hb
    have hB := (hT.2 (s + i) (by omega)).1
    have hc := x_char (σ := σ) hq hq1 (show i < lnT q by omega)
    have hch : chT q i < 256 := by
      have hq' : q = 0 ∨ q = 2 ∨ q = 3 ∨ q = 4 ∨ q = 5 ∨ q = 6 ∨ q = 7 ∨ q = 8 ∨ q = 9 ∨ q = 10 := by omega
      have hb : lnT q ≤ 7 := by rcases hq' with rfl | rfl | rfl | rfl | rfl | rfl | rfl | rfl | rfl | rfl <;> decide
      have hi7 : i = 0 ∨ i = 1 ∨ i = 2 ∨ i = 3 ∨ i = 4 ∨ i = 5 ∨ i = 6 := by omega
      rcases hq' with rfl | rfl | rfl | rfl | rfl | rfl | rfl | rfl | rfl | rfl <;> rcases hi7 with rfl | rfl | rfl | rfl | rfl | rfl | rfl <;> decide
    rw [eqF]
    by_cases z2 : B (s + i) = chT q i
    · have z2' : nI (B (s + i)) = nI (chT q i) := by rw [z2]
      rw [decide_eq_true z2, Bool.true_and, ← ih (i + 1) f (by omega) (by omega), L_X8_isName_28.eq_2]
      rw [dq, ck_i, x_len hq, bd_i, if_neg (by rw [i_le (by omega) (by omega)]; exact z), h8, nI_add, hb, bd_i, ck_i, hc, bd_i, if_pos z2', nam_i, i_al]
    · have z2' : ¬ nI (B (s + i)) = nI (chT q i) := by rw [i_eq (by omega) (by omega)]; exact z2
      rw [decide_eq_false z2, Bool.false_and, L_X8_isName_28.eq_2]
      rw [dq, ck_i, x_len hq, bd_i, if_neg (by rw [i_le (by omega) (by omega)]; exact z), h8, nI_add, hb, bd_i, ck_i, hc, bd_i, if_neg z2', if_neg (by decide)]
theorem x_isN {n : Nat} {B : Nat → Nat} {x σ : St} {s e q : Nat} (hT : TXb n B x) (hX : KX x σ) (h4 : σ.1 (2, 0, 0) 4 = nI n) (h5 : σ.1 (2, 0, 0) 5 = nI e) (h7 : σ.1 (2, 0, 0) 7 = 1) (h8 : σ.1 (2, 0, 0) 8 = nI s) (he : e ≤ n) (hq : q < 11) (hq1 : q ≠ 1) (hse : s ≤ e) : F_X8_isName q σ = some (if isX B s e q then 1 else 0, σ) := by
  have hn := hT.1
  have dq : decide (q < 11) = true := decide_eq_true hq
  have hq' : q = 0 ∨ q = 2 ∨ q = 3 ∨ q = 4 ∨ q = 5 ∨ q = 6 ∨ q = 7 ∨ q = 8 ∨ q = 9 ∨ q = 10 := by omega
  have hb : lnT q ≤ 7 := by rcases hq' with rfl | rfl | rfl | rfl | rfl | rfl | rfl | rfl | rfl | rfl <;> decide
  rw [F_X8_isName, if_pos h7, dq, ck_i, x_len hq, bd_i, h5, h8, pk_sub hse]
  by_cases z : e - s = lnT q
  · rw [if_pos (by rw [z])]
    have := x_isNL hT hX h4 h8 he hq hq1 z hse (lnT q) 0 FU (by omega) (by unfold FU; omega)
    unfold isX
    rw [decide_eq_true z, Bool.true_and]
    exact this
  · rw [if_neg (by rw [i_eq (by omega) (by omega)]; exact z), isX_n z, if_neg (by decide)]
theorem x_isN0 {σ : St} {q : Nat} (h7 : ¬ σ.1 (2, 0, 0) 7 = 1) : F_X8_isName q σ = some (0, σ) := by
  rw [F_X8_isName, if_neg h7]
/-- which rule the name is, once it is not row -/
def rlN (B : Nat → Nat) (s e : Nat) : Int32 := if isX B s e 2 then 0 else if isX B s e 3 then 1 else if isX B s e 4 then 2 else if isX B s e 5 then 4 else if isX B s e 6 then 5 else if isX B s e 7 then 6 else if isX B s e 8 then 7 else if isX B s e 9 then 8 else -4
theorem x_ruleN {σ : St} (I : Nat → Bool) (h : ∀ q, q < 11 → q ≠ 1 → F_X8_isName q σ = some (if I q then 1 else 0, σ)) (h10 : I 10 = false) : F_X8_ruleNamed σ = some (if I 2 then 0 else if I 3 then 1 else if I 4 then 2 else if I 5 then 4 else if I 6 then 5 else if I 7 then 6 else if I 8 then 7 else if I 9 then 8 else -4, σ) := by
  have nm0 : ∀ σ, F_X8_nameOf 0 σ = some (2, σ) := fun σ => rfl
  have nm1 : ∀ σ, F_X8_nameOf 1 σ = some (3, σ) := fun σ => rfl
  have nm2 : ∀ σ, F_X8_nameOf 2 σ = some (4, σ) := fun σ => rfl
  have nm3 : ∀ σ, F_X8_nameOf 3 σ = some (10, σ) := fun σ => rfl
  have nm4 : ∀ σ, F_X8_nameOf 4 σ = some (5, σ) := fun σ => rfl
  have nm5 : ∀ σ, F_X8_nameOf 5 σ = some (6, σ) := fun σ => rfl
  have nm6 : ∀ σ, F_X8_nameOf 6 σ = some (7, σ) := fun σ => rfl
  have nm7 : ∀ σ, F_X8_nameOf 7 σ = some (8, σ) := fun σ => rfl
  have nm8 : ∀ σ, F_X8_nameOf 8 σ = some (9, σ) := fun σ => rfl
  have step : ∀ (f i : Nat) (q : Nat), i < 9 → q < 11 → q ≠ 1 → F_X8_nameOf (nI i) σ = some (q, σ) → L_X8_ruleNamed_2 (f + 1) (nI i) σ = if I q then some (nI i, σ) else L_X8_ruleNamed_2 f (nI (i + 1)) σ := by
    intro f i q hi hq hq1 hnm
    rw [L_X8_ruleNamed_2.eq_2, if_neg (by rw [i_lel (by decide) (by omega)]; omega), hnm, bd_i, h q hq hq1, bd_i]
    cases I q with
    | true =>
      simp only [↓reduceIte, ft10]
    | false =>
      simp only [Bool.false_eq_true, ↓reduceIte, nam_i, i_al]
  have fin : ∀ f, L_X8_ruleNamed_2 (f + 1) (nI 9) σ = some (-4, σ) := by
    intro f
    rw [L_X8_ruleNamed_2.eq_2, if_pos (by decide)]
  have e : F_X8_ruleNamed σ = L_X8_ruleNamed_2 (990 + 1 + 1 + 1 + 1 + 1 + 1 + 1 + 1 + 1 + 1) (nI 0) σ := rfl
  rw [e, step _ 0 2 (by omega) (by omega) (by omega) (nm0 σ), step _ 1 3 (by omega) (by omega) (by omega) (nm1 σ), step _ 2 4 (by omega) (by omega) (by omega) (nm2 σ), step _ 3 10 (by omega) (by omega) (by omega) (nm3 σ), step _ 4 5 (by omega) (by omega) (by omega) (nm4 σ), step _ 5 6 (by omega) (by omega) (by omega) (nm5 σ), step _ 6 7 (by omega) (by omega) (by omega) (nm6 σ), step _ 7 8 (by omega) (by omega) (by omega) (nm7 σ), step _ 8 9 (by omega) (by omega) (by omega) (nm8 σ), fin, h10]
  cases I 2 <;> cases I 3 <;> cases I 4 <;> cases I 5 <;> cases I 6 <;> cases I 7 <;> cases I 8 <;> cases I 9 <;> rfl
theorem x_rule1 {n : Nat} {B : Nat → Nat} {x σ : St} {s e : Nat} (hT : TXb n B x) (hX : KX x σ) (h4 : σ.1 (2, 0, 0) 4 = nI n) (h5 : σ.1 (2, 0, 0) 5 = nI e) (h7 : σ.1 (2, 0, 0) 7 = 1) (h8 : σ.1 (2, 0, 0) 8 = nI s) (he : e ≤ n) (hse : s < e) : F_X8_ruleNamed σ = some (rlN B s e, σ) := by
  refine x_ruleN (isX B s e) (fun q hq hq1 => x_isN hT hX h4 h5 h7 h8 he hq hq1 (by omega)) ?_
  apply isX_n
  have : lnT 10 = 0 := by decide
  omega
theorem x_rule0 {σ : St} (h7 : ¬ σ.1 (2, 0, 0) 7 = 1) : F_X8_ruleNamed σ = some (-4, σ) := by
  have := x_ruleN (σ := σ) (fun _ => false) (fun q _ _ => by rw [x_isN0 h7]; rfl) rfl
  exact this
/-! the model's names -/
section MN
variable {n : Nat} {B : Nat → Nat} {τ : St} {s e : Nat}
theorem m_st0 {len : Nat} {a b c d : Int32} (h9 : τ.1 (40, 0, 0) 9 = nI e) (h10 : τ.1 (40, 0, 0) 10 = nI s) (hse : s ≤ e) (he : e ≤ 400) (hl : len ≤ 9) (h : ¬ e - s = len) : F_X11_starts (nI len) a b c d τ = some (0, τ) := by
  rw [F_X11_starts, h9, h10, pk_sub hse, if_neg (by rw [i_eq (by omega) (by omega)]; exact h)]
theorem m_lk {j : Nat} (hT : TMb n B τ) (hj : j < n) : F_X11_look (nI j) τ = some (nI (B j), τ) := by
  have hn := hT.1
  rw [m_look hT (by omega), if_pos hj]
theorem m_st2 {a b : Nat} {c d : Int32} (hT : TMb n B τ) (h9 : τ.1 (40, 0, 0) 9 = nI e) (h10 : τ.1 (40, 0, 0) 10 = nI s) (he : e ≤ n) (hl : e - s = 2) (ha : a < 256) (hb : b < 256) : F_X11_starts 2 (nI a) (nI b) c d τ = some (if B s = a ∧ B (s + 1) = b then 1 else 0, τ) := by
  have hn := hT.1
  have l0 := m_lk hT (show s < n by omega)
  have l1 := m_lk hT (show s + 1 < n by omega)
  have b0 := (hT.2.2 s (by omega)).1
  have b1 := (hT.2.2 (s + 1) (by omega)).1
  have t3 : (2 : Int32) < 3 := by decide
  have t4 : (2 : Int32) < 4 := by decide
  have ee : nI (2 : Nat) = 2 := rfl
  by_cases z0 : B s = a
  · by_cases z1 : B (s + 1) = b <;> simp (disch := omega) only [F_X11_starts, h9, h10, pk_sub, hl, ee, ↓reduceIte, l0, l1, bd_i, i_eq, z0, z1, t3, t4, i_al, and_self, and_false, and_true]
  · simp (disch := omega) only [F_X11_starts, h9, h10, pk_sub, hl, ee, ↓reduceIte, l0, bd_i, i_eq, z0, false_and]
theorem m_st3 {a b c : Nat} {d : Int32} (hT : TMb n B τ) (h9 : τ.1 (40, 0, 0) 9 = nI e) (h10 : τ.1 (40, 0, 0) 10 = nI s) (he : e ≤ n) (hl : e - s = 3) (ha : a < 256) (hb : b < 256) (hc : c < 256) : F_X11_starts 3 (nI a) (nI b) (nI c) d τ = some (if B s = a ∧ B (s + 1) = b ∧ B (s + 2) = c then 1 else 0, τ) := by
  have hn := hT.1
  have l0 := m_lk hT (show s < n by omega)
  have l1 := m_lk hT (show s + 1 < n by omega)
  have l2 := m_lk hT (show s + 2 < n by omega)
  have b0 := (hT.2.2 s (by omega)).1
  have b1 := (hT.2.2 (s + 1) (by omega)).1
  have b2 := (hT.2.2 (s + 2) (by omega)).1
  have t3 : ¬ (3 : Int32) < 3 := by decide
  have t4 : (3 : Int32) < 4 := by decide
  have ee : nI (3 : Nat) = 3 := rfl
  by_cases z0 : B s = a
  · by_cases z1 : B (s + 1) = b
    · by_cases z2 : B (s + 2) = c <;> simp (disch := omega) only [F_X11_starts, h9, h10, pk_sub, hl, ee, ↓reduceIte, l0, l1, l2, bd_i, i_eq, z0, z1, z2, t3, t4, i_al, and_self, and_false, and_true]
    · simp (disch := omega) only [F_X11_starts, h9, h10, pk_sub, hl, ee, ↓reduceIte, l0, l1, bd_i, i_eq, z0, z1, i_al, false_and, and_false]
  · simp (disch := omega) only [F_X11_starts, h9, h10, pk_sub, hl, ee, ↓reduceIte, l0, bd_i, i_eq, z0, false_and]
theorem m_st4 {len a b c d : Nat} (hT : TMb n B τ) (h9 : τ.1 (40, 0, 0) 9 = nI e) (h10 : τ.1 (40, 0, 0) 10 = nI s) (he : e ≤ n) (hl : e - s = len) (hlen : 4 ≤ len) (hlen9 : len ≤ 9) (ha : a < 256) (hb : b < 256) (hc : c < 256) (hd : d < 256) : F_X11_starts (nI len) (nI a) (nI b) (nI c) (nI d) τ = some (if B s = a ∧ B (s + 1) = b ∧ B (s + 2) = c ∧ B (s + 3) = d then 1 else 0, τ) := by
  have hn := hT.1
  have l0 := m_lk hT (show s < n by omega)
  have l1 := m_lk hT (show s + 1 < n by omega)
  have l2 := m_lk hT (show s + 2 < n by omega)
  have l3 := m_lk hT (show s + 3 < n by omega)
  have b0 := (hT.2.2 s (by omega)).1
  have b1 := (hT.2.2 (s + 1) (by omega)).1
  have b2 := (hT.2.2 (s + 2) (by omega)).1
  have b3 := (hT.2.2 (s + 3) (by omega)).1
  have t3 : ¬ len < 3 := by omega
  have t4 : ¬ len < 4 := by omega
  by_cases z0 : B s = a
  · by_cases z1 : B (s + 1) = b
    · by_cases z2 : B (s + 2) = c
      · by_cases z3 : B (s + 3) = d <;> simp (disch := omega) only [F_X11_starts, h9, h10, pk_sub, hl, ↓reduceIte, l0, l1, l2, l3, bd_i, i_eq, z0, z1, z2, z3, i_ltr, t3, t4, i_al, and_self, and_false, and_true]
      · simp (disch := omega) only [F_X11_starts, h9, h10, pk_sub, hl, ↓reduceIte, l0, l1, l2, bd_i, i_eq, z0, z1, z2, i_ltr, t3, i_al, false_and, and_false]
    · simp (disch := omega) only [F_X11_starts, h9, h10, pk_sub, hl, ↓reduceIte, l0, l1, bd_i, i_eq, z0, z1, i_al, false_and, and_false]
  · simp (disch := omega) only [F_X11_starts, h9, h10, pk_sub, hl, ↓reduceIte, l0, bd_i, i_eq, z0, false_and]
end MN
