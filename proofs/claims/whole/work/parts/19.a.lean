/-! odds: courses of a rolling drop -/
theorem KX_eq {x x' : St} (h : x'.1 = x.1) : KX x x' := fun d _ => by rw [h]
theorem KM_eq {x x' : St} (h : x'.1 = x.1) : KM x x' := fun d k _ => by rw [h]
def zr (gl : Nat) (A : Nat → Nat) : Nat → Nat := fun j => if j = gl then 0 else A j
def adN (d w : Nat) (A : Nat → Nat) : Nat → Nat := fun j => if j = d then A j + w else A j
def dst (g : Nat → Int32) (c v : Nat) : Nat := if g c = 6 then c else nam (nx (nI c) (if 4 ≤ g c then nI v else g c)) fun to => if knd g to = 5 then c else to.toNatClampNeg
def rlI (g : Nat → Int32) (w c : Nat) : Nat → Nat → (Nat → Nat) → (Nat → Nat)
  | 0, _, A => A
  | k + 1, v, A => rlI g w c k (v + 1) (adN (dst g c v) w A)
def rlO (g : Nat → Int32) (W : Nat → Nat) : Nat → Nat → (Nat → Nat) → (Nat → Nat)
  | 0, _, A => A
  | k + 1, c, A => rlO g W k (c + 1) (rlI g (W c) c 4 0 A)
def rlA (g : Nat → Int32) (W : Nat → Nat) : Nat → Nat := rlO g W 96 0 (fun _ => 0)
def odS (g : Nat → Int32) (gl : Nat) : Nat → Nat × (Nat → Nat) → Nat × (Nat → Nat)
  | 0, S => S
  | k + 1, S => odS g gl k (4 * (S.1 + S.2 gl), rlA g (zr gl S.2))
theorem ad_0 {d : Nat} {A : Nat → Nat} : adN d 0 A = A := by
  funext j
  unfold adN
  split <;> rfl
theorem rlI_0 {g : Nat → Int32} {c : Nat} : ∀ (k v : Nat) (A : Nat → Nat), rlI g 0 c k v A = A
  | 0, _, _ => rfl
  | k + 1, v, A => by rw [rlI, ad_0, rlI_0]
theorem sm_ad {d w : Nat} {A : Nat → Nat} : ∀ {n : Nat}, (d < n → sm (adN d w A) n = sm A n + w) ∧ (n ≤ d → sm (adN d w A) n = sm A n) := by
  intro n
  induction n with
  | zero => exact ⟨fun h => absurd h (by omega), fun _ => rfl⟩
  | succ n ih =>
    have e1 : ∀ f, sm f (n + 1) = sm f n + f n := fun f => rfl
    refine ⟨fun h => ?_, fun h => ?_⟩
    · rw [e1, e1]
      by_cases z : d = n
      · subst z
        rw [ih.2 (Nat.le_refl _)]
        have : adN d w A d = A d + w := if_pos rfl
        omega
      · have : adN d w A n = A n := if_neg (by omega)
        rw [ih.1 (by omega), this]
        omega
    · rw [e1, e1, ih.2 (by omega)]
      have : adN d w A n = A n := if_neg (by omega)
      rw [this]
theorem sm_zr {gl : Nat} {A : Nat → Nat} : ∀ {n : Nat}, (gl < n → sm (zr gl A) n + A gl = sm A n) ∧ (n ≤ gl → sm (zr gl A) n = sm A n) := by
  intro n
  induction n with
  | zero => exact ⟨fun h => absurd h (by omega), fun _ => rfl⟩
  | succ n ih =>
    have e1 : ∀ f, sm f (n + 1) = sm f n + f n := fun f => rfl
    refine ⟨fun h => ?_, fun h => ?_⟩
    · rw [e1, e1]
      by_cases z : gl = n
      · subst z
        rw [ih.2 (Nat.le_refl _)]
        have : zr gl A gl = 0 := if_pos rfl
        omega
      · have : zr gl A n = A n := if_neg (by omega)
        have := ih.1 (by omega)
        omega
    · rw [e1, e1, ih.2 (by omega)]
      have : zr gl A n = A n := if_neg (by omega)
      rw [this]
theorem dst_in {g : Nat → Int32} (hg : ∀ c, c < 96 → ∃ k, k < 8 ∧ g c = nI k) {c v : Nat} (hc : c < 96) (hv : v < 4) : dst g c v < 96 := by
  unfold dst
  split
  · exact hc
  · obtain ⟨k, hk, hgk⟩ := hg c hc
    have hy : ∃ j, j < 4 ∧ (if 4 ≤ g c then nI v else g c) = nI j := by
      rw [hgk]
      split
      · exact ⟨v, hv, rfl⟩
      · rename_i h
        rw [i_lel (by decide) (by omega)] at h
        exact ⟨k, by omega, rfl⟩
    obtain ⟨j, hj, hje⟩ := hy
    rw [nam_i, hje]
    split
    · exact hc
    · rename_i h5
      rcases nx_in c hc j hj with h | ⟨q, hq, h, hqc⟩
      · rw [h] at h5; exact absurd rfl h5
      · rw [h, nI_clamp (by omega)]; exact hq
theorem sm_rlI {g : Nat → Int32} (hg : ∀ c, c < 96 → ∃ k, k < 8 ∧ g c = nI k) {w c : Nat} (hc : c < 96) : ∀ (k v : Nat) (A : Nat → Nat), v + k ≤ 4 → sm (rlI g w c k v A) 96 = sm A 96 + k * w
  | 0, _, _, _ => by rw [rlI]; omega
  | k + 1, v, A, h => by
    rw [rlI, sm_rlI hg hc k (v + 1) _ (by omega), sm_ad.1 (dst_in hg hc (by omega)), Nat.add_mul]
    omega
theorem sm_rlO {g : Nat → Int32} (hg : ∀ c, c < 96 → ∃ k, k < 8 ∧ g c = nI k) {W : Nat → Nat} : ∀ (k c : Nat) (A : Nat → Nat), c + k = 96 → sm (rlO g W k c A) 96 + 4 * sm W c = sm A 96 + 4 * sm W 96
  | 0, c, A, h => by
    have : c = 96 := by omega
    rw [rlO, this]
  | k + 1, c, A, h => by
    have := sm_rlO hg (W := W) k (c + 1) (rlI g (W c) c 4 0 A) (by omega)
    rw [sm_rlI hg (by omega) 4 0 A (by omega)] at this
    have e1 : sm W (c + 1) = sm W c + W c := rfl
    rw [rlO]
    omega
theorem sm_z : ∀ n, sm (fun _ => 0) n = 0
  | 0 => rfl
  | n + 1 => by
    have : sm (fun _ => 0) (n + 1) = sm (fun _ => 0) n + 0 := rfl
    rw [this, sm_z n]
theorem sm_rlA {g : Nat → Int32} (hg : ∀ c, c < 96 → ∃ k, k < 8 ∧ g c = nI k) {W : Nat → Nat} : sm (rlA g W) 96 = 4 * sm W 96 := by
  have := sm_rlO hg (W := W) 96 0 (fun _ => 0) (by omega)
  have e : sm W 0 = 0 := rfl
  rw [sm_z, e] at this
  unfold rlA
  omega
/-! the class's rolling -/
def LX (σ : St) (d : Id3) (A : Nat → Nat) : Prop := ∀ j, j < 96 → σ.2 d j = lN (A j)
theorem uL_at {σ : St} {d : Id3} {k : Nat} {v : Int64} : (uL σ d k v).2 d k = v := by simp [uL]
theorem uL_o {σ : St} {d : Id3} {k j : Nat} {v : Int64} (h : j ≠ k) : (uL σ d k v).2 d j = σ.2 d j := by simp [uL, h]
theorem LX_ad {σ : St} {d : Id3} {i w : Nat} {A : Nat → Nat} (h : LX σ d A) (hi : i < 96) : LX (uL σ d i (σ.2 d i + lN w)) d (adN i w A) := by
  intro j hj
  by_cases e : j = i
  · subst e
    rw [uL_at, h j hj, lN_add]
    unfold adN
    rw [if_pos rfl]
  · rw [uL_o e, h j hj]
    unfold adN
    rw [if_neg e]
theorem x_rolled {x σ : St} {g : Nat → Int32} (h1 : σ.1 = x.1) (hgx : ∀ c, c < 96 → fx 0 x c = g c) (hg : ∀ c, c < 96 → ∃ k, k < 8 ∧ g c = nI k) {c v : Nat} (hc : c < 96) (hv : v < 4) : F_X4_rolledTo 0 (nI c) (nI v) σ = some (nI (dst g c v), σ) := by
  obtain ⟨k, hk, hgk⟩ := hg c hc
  have kS : ∀ q, q < 96 → F_X6_kindAt 0 (nI q) σ = some (g q, σ) := fun q hq => by rw [x_kindS (KX_eq h1) hq, hgx q hq]
  rw [F_X4_rolledTo, kS c hc, bd_i]
  unfold dst
  by_cases z6 : g c = 6
  · rw [if_pos z6, if_pos z6]
  · rw [if_neg z6, if_neg z6, nam_i]
    have fin : ∀ j, j < 4 → (bd (F_X10_nextCell (nI c) (nI j) σ) fun r11 σ10 => bd (F_X6_kindAt 0 r11 σ10) fun r14 σ13 => (if r14 = (5 : Int32) then some (nI c, σ13) else some (r11, σ13))) = some (nI (if knd g (nx (nI c) (nI j)) = 5 then c else (nx (nI c) (nI j)).toNatClampNeg), σ) := by
      intro j hj
      rw [x_next, bd_i]
      rcases nx_in c hc j hj with h | ⟨q, hq, h, hqc⟩
      · rw [h, x_kind4S, bd_i, if_pos rfl, if_pos (by rfl)]
      · have hkn : knd g (nI q) = g q := by
          rw [knd, if_neg (by rw [i_nm4 (by omega)]; exact not_false), nI_clamp (by omega)]
        rw [h, kS q hq, bd_i, hkn, nI_clamp (by omega)]
        split <;> rfl
    by_cases z4 : 4 ≤ g c
    · have : ¬ IV 0 3 (g c) := by
        rintro ⟨j, _, j2, j3⟩
        rw [j3, i_lel (by decide) (by omega)] at z4
        omega
      rw [x_wayf this, bd_i, nam_i, if_pos rfl, if_pos z4]
      exact fin v hv
    · have hk4 : k < 4 := by
        rw [hgk, i_lel (by decide) (by omega)] at z4
        omega
      rw [if_neg z4, hgk, x_wayt hk4, bd_i, nam_i, if_neg (by decide)]
      exact fin k hk4
theorem x_rollI {x : St} {g : Nat → Int32} (hgx : ∀ c, c < 96 → fx 0 x c = g c) (hg : ∀ c, c < 96 → ∃ k, k < 8 ∧ g c = nI k) {c w : Nat} (hc : c < 96) (kx : St → Option (Unit × St)) : ∀ (k v fu : Nat) (σ : St) (A : Nat → Nat), v + k = 4 → k < fu → σ.1 = x.1 → σ.2 (19, 0, 0) c = lN w → LX σ (19, 1, 0) A → ∃ σ', L_X4_rollAll_29 0 (nI c) fu (nI v) σ kx = kx σ' ∧ σ'.1 = x.1 ∧ σ'.2 (19, 0, 0) = σ.2 (19, 0, 0) ∧ LX σ' (19, 1, 0) (rlI g w c k v A) := by
  intro k
  induction k with
  | zero =>
    intro v fu σ A hk hf h1 h2 h3
    obtain ⟨f, rfl⟩ : ∃ f, fu = f + 1 := ⟨fu - 1, by omega⟩
    have z : 4 ≤ v := by omega
    refine ⟨σ, ?_, h1, rfl, h3⟩
    simp (disch := omega) only [L_X4_rollAll_29, i_lel, z, ↓reduceIte]
  | succ k ih =>
    intro v fu σ A hk hf h1 h2 h3
    obtain ⟨f, rfl⟩ : ∃ f, fu = f + 1 := ⟨fu - 1, by omega⟩
    have z : ¬ 4 ≤ v := by omega
    have hd := dst_in hg hc (show v < 4 by omega)
    have ne : ((19, 0, 0) : Id3) ≠ (19, 1, 0) := by decide
    obtain ⟨σ', a1, a2, a3, a4⟩ := ih (v + 1) f (uL σ (19, 1, 0) (dst g c v) (σ.2 (19, 1, 0) (dst g c v) + lN w)) (adN (dst g c v) w A) (by omega) (by omega) h1 (by rw [uL_ne ne]; exact h2) (LX_ad h3 hd)
    refine ⟨σ', ?_, a2, by rw [a3, uL_ne ne], a4⟩
    rw [← a1, L_X4_rollAll_29.eq_2]
    simp (disch := omega) only [i_lel, z, ↓reduceIte, x_rolled h1 hgx hg hc (show v < 4 by omega), bd_i, x_cellt hd, ft10, nam_i, inb_i, ck_i, nI_clamp, h2, i_al]
theorem lg_eq0 {n : Nat} (h : n < 2 ^ 63) : (lg_cmp (lN n) 0 = 0) = (n = 0) := by
  have e : (0 : Int64) = lN 0 := rfl
  have a := lg_cmp_lt (lN n) (lN 0)
  have b := lg_cmp_gt (lN n) (lN 0)
  apply propext
  constructor
  · intro q
    rcases Nat.eq_zero_or_pos n with z | z
    · exact z
    · exfalso
      rw [e] at q
      rw [q] at b
      have : lN 0 < lN n := (pk_lLT (by omega) h).mpr z
      have t : ¬ ((0 : Int32) < 0) := by decide
      rw [← b] at this
      exact t this
  · intro q
    subst q
    rfl
