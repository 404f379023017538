/-! odds: the model's spreading -/
theorem zr_ad {gl d w : Nat} {A : Nat → Nat} : zr gl (adN d w A) = if d = gl then zr gl A else adN d w (zr gl A) := by
  funext j
  by_cases e : d = gl
  · rw [if_pos e]
    unfold zr adN
    by_cases e2 : j = gl
    · rw [if_pos e2, if_pos e2]
    · rw [if_neg e2, if_neg e2, if_neg (by omega)]
  · rw [if_neg e]
    have l : zr gl (adN d w A) j = if j = gl then 0 else (if j = d then A j + w else A j) := rfl
    have r : adN d w (zr gl A) j = if j = d then (if j = gl then 0 else A j) + w else (if j = gl then 0 else A j) := rfl
    rw [l, r]
    by_cases e2 : j = gl
    · rw [if_pos e2, if_neg (by omega), if_pos e2]
    · rw [if_neg e2, if_neg e2]
theorem m_sprI {m : St} {g : Nat → Int32} (hgm : ∀ c, c < 96 → m.1 (41, 0, 0) c = g c) (hg : ∀ c, c < 96 → ∃ k, k < 8 ∧ g c = nI k) {c w gl : Nat} (hc : c < 96) (hgl : gl < 96) (hw : w < 2 ^ 63) (kx : Int64 → St → Option (Int64 × St)) : ∀ (k v fu : Nat) (σ : St) (A : Nat → Nat), v + k = 4 → k < fu → σ.1 = m.1 → σ.2 (49, 0, 0) c = lN w → LX σ (50, 0, 0) (zr gl A) → ∃ σ', L_X11_spreads_39 (nI gl) (nI c) fu (lN (A gl)) (nI v) σ kx = kx (lN (rlI g w c k v A gl)) σ' ∧ σ'.1 = m.1 ∧ σ'.2 (49, 0, 0) = σ.2 (49, 0, 0) ∧ LX σ' (50, 0, 0) (zr gl (rlI g w c k v A)) := by
  intro k
  induction k with
  | zero =>
    intro v fu σ A hk hf h1 h2 h3
    obtain ⟨f, rfl⟩ : ∃ f, fu = f + 1 := ⟨fu - 1, by omega⟩
    have z : 4 ≤ v := by omega
    refine ⟨σ, ?_, h1, rfl, h3⟩
    simp (disch := omega) only [L_X11_spreads_39, i_lel, z, ↓reduceIte, rlI]
  | succ k ih =>
    intro v fu σ A hk hf h1 h2 h3
    obtain ⟨f, rfl⟩ : ∃ f, fu = f + 1 := ⟨fu - 1, by omega⟩
    have z : ¬ (4 : Int32) ≤ nI v := by rw [i_lel (by decide) (by omega)]; omega
    by_cases z0 : w = 0
    · subst z0
      have zz : lg_cmp (lN 0) (0 : Int64) ≤ 0 := by decide
      refine ⟨σ, ?_, h1, rfl, by rw [rlI_0]; exact h3⟩
      rw [L_X11_spreads_39.eq_2, if_neg z, inb_i (by omega) (by omega), ck_i, nI_clamp (by omega), h2, if_pos zz, rlI_0]
    · have zz : ¬ lg_cmp (lN w) (0 : Int64) ≤ 0 := by
        intro q
        have b := lg_cmp_gt (lN w) (lN 0)
        have : lN 0 < lN w := (pk_lLT (by omega) hw).mpr (by omega)
        rw [← b] at this
        have e : (0 : Int64) = lN 0 := rfl
        rw [e] at q
        rw [Int32.le_iff_toInt_le] at q
        rw [Int32.lt_iff_toInt_lt] at this
        omega
      have hd := dst_in hg hc (show v < 4 by omega)
      have ne : ((49, 0, 0) : Id3) ≠ (50, 0, 0) := by decide
      rw [rlI]
      by_cases hdg : dst g c v = gl
      · have h3' : LX (uL σ (50, 0, 0) gl (σ.2 (50, 0, 0) gl + 0)) (50, 0, 0) (zr gl (adN (dst g c v) w A)) := by
          rw [zr_ad, if_pos hdg, Int64.add_zero]
          intro j hj
          by_cases e : j = gl
          · subst e; rw [uL_at]; exact h3 j hj
          · rw [uL_o e]; exact h3 j hj
        obtain ⟨σ', a1, a2, a3, a4⟩ := ih (v + 1) f (uL σ (50, 0, 0) gl (σ.2 (50, 0, 0) gl + 0)) (adN (dst g c v) w A) (by omega) (by omega) h1 (by rw [uL_ne ne]; exact h2) h3'
        have eA : adN (dst g c v) w A gl = A gl + w := by unfold adN; rw [if_pos hdg.symm]
        refine ⟨σ', ?_, a2, by rw [a3, uL_ne ne], a4⟩
        rw [← a1, eA, L_X11_spreads_39.eq_2, if_neg z, inb_i (by omega) (by omega), ck_i, nI_clamp (by omega), h2, if_neg zz]
        have D := m_dst h1 hgm hg hc (show v < 4 by omega) (fun (y15 : Int32) (σ17 : St) => nam (fun (y18 : Int64) (σ20 : St) => nam (lN (A gl) + y18) fun x21 => ck (inb y15 96) (nam (fun (y23 : Int64) (σ25 : St) => ck (inb y15 96) (nam (uL σ25 (50, 0, 0) (y15.toNatClampNeg) ((σ20.2 (50, 0, 0) (y15.toNatClampNeg)) + y23)) fun σ27 => nam (nI v + (1 : Int32)) fun x28 => L_X11_spreads_39 (nI gl) (nI c) f x21 x28 σ27 kx)) fun k24 => (if y15 = nI gl then k24 (0 : Int64) σ20 else ck true (k24 (σ20.2 (49, 0, 0) c) σ20)))) fun k19 => (if y15 = nI gl then ck true (k19 (σ17.2 (49, 0, 0) c) σ17) else k19 (0 : Int64) σ17))
        rw [inb_i (by omega) (by omega), nI_clamp (by omega)] at D
        rw [inb_i (by omega) (by omega), ck_i]
        refine Eq.trans D ?_
        simp (disch := omega) only [hdg, ↓reduceIte, nam_i, ck_i, inb_i, nI_clamp, h2, lN_add, i_al]
      · have h3' : LX (uL σ (50, 0, 0) (dst g c v) (σ.2 (50, 0, 0) (dst g c v) + lN w)) (50, 0, 0) (zr gl (adN (dst g c v) w A)) := by
          rw [zr_ad, if_neg hdg]
          exact LX_ad h3 hd
        obtain ⟨σ', a1, a2, a3, a4⟩ := ih (v + 1) f (uL σ (50, 0, 0) (dst g c v) (σ.2 (50, 0, 0) (dst g c v) + lN w)) (adN (dst g c v) w A) (by omega) (by omega) h1 (by rw [uL_ne ne]; exact h2) h3'
        have eA : adN (dst g c v) w A gl = A gl := by unfold adN; rw [if_neg (fun q => hdg q.symm)]
        have hne : ¬ nI (dst g c v) = nI gl := by rw [i_eq (by omega) (by omega)]; exact hdg
        refine ⟨σ', ?_, a2, by rw [a3, uL_ne ne], a4⟩
        rw [← a1, eA, L_X11_spreads_39.eq_2, if_neg z, inb_i (by omega) (by omega), ck_i, nI_clamp (by omega), h2, if_neg zz]
        have D := m_dst h1 hgm hg hc (show v < 4 by omega) (fun (y15 : Int32) (σ17 : St) => nam (fun (y18 : Int64) (σ20 : St) => nam (lN (A gl) + y18) fun x21 => ck (inb y15 96) (nam (fun (y23 : Int64) (σ25 : St) => ck (inb y15 96) (nam (uL σ25 (50, 0, 0) (y15.toNatClampNeg) ((σ20.2 (50, 0, 0) (y15.toNatClampNeg)) + y23)) fun σ27 => nam (nI v + (1 : Int32)) fun x28 => L_X11_spreads_39 (nI gl) (nI c) f x21 x28 σ27 kx)) fun k24 => (if y15 = nI gl then k24 (0 : Int64) σ20 else ck true (k24 (σ20.2 (49, 0, 0) c) σ20)))) fun k19 => (if y15 = nI gl then ck true (k19 (σ17.2 (49, 0, 0) c) σ17) else k19 (0 : Int64) σ17))
        rw [inb_i (by omega) (by omega), nI_clamp (by omega)] at D
        rw [inb_i (by omega) (by omega), ck_i]
        refine Eq.trans D ?_
        simp (disch := omega) only [hne, ↓reduceIte, nam_i, ck_i, inb_i, nI_clamp, h2, Int64.add_zero, i_al]
theorem m_sprO {m : St} {g : Nat → Int32} (hgm : ∀ c, c < 96 → m.1 (41, 0, 0) c = g c) (hg : ∀ c, c < 96 → ∃ k, k < 8 ∧ g c = nI k) {gl : Nat} (hgl : gl < 96) {W : Nat → Nat} (hW : ∀ c, c < 96 → W c < 2 ^ 63) (kx : Int64 → St → Option (Int64 × St)) : ∀ (k c fu : Nat) (σ : St) (A : Nat → Nat), c + k = 96 → k < fu → σ.1 = m.1 → LX σ (49, 0, 0) W → LX σ (50, 0, 0) (zr gl A) → ∃ σ', L_X11_spreads_29 (nI gl) fu (lN (A gl)) (nI c) σ kx = kx (lN (rlO g W k c A gl)) σ' ∧ σ'.1 = m.1 ∧ LX σ' (50, 0, 0) (zr gl (rlO g W k c A)) := by
  intro k
  induction k with
  | zero =>
    intro c fu σ A hk hf h1 h2 h3
    obtain ⟨f, rfl⟩ : ∃ f, fu = f + 1 := ⟨fu - 1, by omega⟩
    have z : 96 ≤ c := by omega
    refine ⟨σ, ?_, h1, h3⟩
    simp (disch := omega) only [L_X11_spreads_29, i_lel, z, ↓reduceIte, rlO]
  | succ k ih =>
    intro c fu σ A hk hf h1 h2 h3
    obtain ⟨f, rfl⟩ : ∃ f, fu = f + 1 := ⟨fu - 1, by omega⟩
    have z : ¬ 96 ≤ c := by omega
    have hc : c < 96 := by omega
    obtain ⟨σ1, b1, b2, b3, b4⟩ := m_sprI hgm hg hc hgl (hW c hc) (fun (y43 : Int64) (σ42 : St) => nam (nI c + (1 : Int32)) fun x44 => L_X11_spreads_29 (nI gl) f y43 x44 σ42 kx) 4 0 FU σ A (by omega) (by unfold FU; omega) h1 (h2 c hc) h3
    obtain ⟨σ', a1, a2, a3⟩ := ih (c + 1) f σ1 (rlI g (W c) c 4 0 A) (by omega) (by omega) b2 (fun j hj => by rw [b3]; exact h2 j hj) b4
    refine ⟨σ', ?_, a2, a3⟩
    rw [rlO, ← a1, L_X11_spreads_29.eq_2, if_neg (by rw [i_lel (by decide) (by omega)]; exact z)]
    refine Eq.trans b1 ?_
    rw [nam_i, i_al]
theorem m_spr5 {c1 : Int32} {c2 : Int64} (kx : St → Option (Int64 × St)) : ∀ (k i fu : Nat) (τ : St), i + k = 96 → k < fu → ∃ τ', L_X11_spreads_5 c1 c2 fu (nI i) τ kx = kx τ' ∧ τ'.1 = τ.1 ∧ (∀ d, d ≠ (50, 0, 0) → τ'.2 d = τ.2 d) ∧ (∀ j, j < 96 → τ'.2 (50, 0, 0) j = if i ≤ j then 0 else τ.2 (50, 0, 0) j) := by
  intro k
  induction k with
  | zero =>
    intro i fu τ hk hf
    obtain ⟨f, rfl⟩ : ∃ f, fu = f + 1 := ⟨fu - 1, by omega⟩
    have z : 96 ≤ i := by omega
    refine ⟨τ, ?_, rfl, fun _ _ => rfl, fun j hj => by rw [if_neg (by omega)]⟩
    simp (disch := omega) only [L_X11_spreads_5, i_lel, z, ↓reduceIte]
  | succ k ih =>
    intro i fu τ hk hf
    obtain ⟨f, rfl⟩ : ∃ f, fu = f + 1 := ⟨fu - 1, by omega⟩
    have z : ¬ 96 ≤ i := by omega
    obtain ⟨τ', a1, a2, a3, a4⟩ := ih (i + 1) f (uL τ (50, 0, 0) i 0) (by omega) (by omega)
    refine ⟨τ', ?_, a2, fun d hd => by rw [a3 d hd, uL_ne hd], fun j hj => ?_⟩
    · rw [← a1]
      simp (disch := omega) only [L_X11_spreads_5.eq_2, i_lel, z, ↓reduceIte, inb_i, ck_i, nI_clamp, nam_i, i_al]
    · rw [a4 j hj]
      by_cases e : j = i
      · subst e
        rw [if_neg (by omega), if_pos (by omega), uL_at]
      · rw [uL_o e]
        by_cases e2 : i ≤ j
        · rw [if_pos (by omega), if_pos e2]
        · rw [if_neg (by omega), if_neg e2]
theorem m_sprC {c2 : Int64} {A : Nat → Nat} : ∀ (k i fu : Nat) (τ : St), i + k = 96 → k < fu → LX τ (50, 0, 0) A → (∀ j, j < i → τ.2 (49, 0, 0) j = lN (A j)) → ∃ τ', L_X11_spreads_179 c2 fu (nI i) τ = some (c2, τ') ∧ τ'.1 = τ.1 ∧ LX τ' (49, 0, 0) A := by
  intro k
  induction k with
  | zero =>
    intro i fu τ hk hf h1 h2
    obtain ⟨f, rfl⟩ : ∃ f, fu = f + 1 := ⟨fu - 1, by omega⟩
    have z : 96 ≤ i := by omega
    refine ⟨τ, ?_, rfl, fun j hj => h2 j (by omega)⟩
    simp (disch := omega) only [L_X11_spreads_179, i_lel, z, ↓reduceIte]
  | succ k ih =>
    intro i fu τ hk hf h1 h2
    obtain ⟨f, rfl⟩ : ∃ f, fu = f + 1 := ⟨fu - 1, by omega⟩
    have z : ¬ 96 ≤ i := by omega
    have ne : ((50, 0, 0) : Id3) ≠ (49, 0, 0) := by decide
    obtain ⟨τ', a1, a2, a3⟩ := ih (i + 1) f (uL τ (49, 0, 0) i (lN (A i))) (by omega) (by omega) (fun j hj => by rw [uL_ne ne]; exact h1 j hj) (fun j hj => by
      by_cases e : j = i
      · subst e; rw [uL_at]
      · rw [uL_o e]; exact h2 j (by omega))
    refine ⟨τ', ?_, a2, a3⟩
    rw [← a1]
    simp (disch := omega) only [L_X11_spreads_179.eq_2, i_lel, z, ↓reduceIte, inb_i, ck_i, nI_clamp, h1 i (show i < 96 by omega), nam_i, i_al]
theorem m_spreads {m : St} {g : Nat → Int32} (hgm : ∀ c, c < 96 → m.1 (41, 0, 0) c = g c) (hg : ∀ c, c < 96 → ∃ k, k < 8 ∧ g c = nI k) {gl : Nat} (hgl : gl < 96) {W : Nat → Nat} (hW : ∀ c, c < 96 → W c < 2 ^ 63) {σ : St} (h1 : σ.1 = m.1) (h2 : LX σ (49, 0, 0) W) : ∃ σ', F_X11_spreads (nI gl) σ = some (lN (rlA g W gl), σ') ∧ σ'.1 = m.1 ∧ LX σ' (49, 0, 0) (zr gl (rlA g W)) := by
  obtain ⟨τ, e1, e2, e3, e4⟩ := m_spr5 (c1 := nI gl) (c2 := 0) (fun  (σ5 : St) => L_X11_spreads_29 (nI gl) FU (0 : Int64) (0 : Int32) σ5 (fun (y47 : Int64) (σ46 : St) => L_X11_spreads_179 y47 FU (0 : Int32) σ46 )) 96 0 FU σ (by omega) (by unfold FU; omega)
  obtain ⟨σ1, a1, a2, a3⟩ := m_sprO hgm hg hgl hW (fun (y47 : Int64) (σ46 : St) => L_X11_spreads_179 y47 FU (0 : Int32) σ46 ) 96 0 FU τ (fun _ => 0) (by omega) (by unfold FU; omega) (by rw [e2, h1]) (fun j hj => by rw [e3 _ (by decide)]; exact h2 j hj) (fun j hj => by
    rw [e4 j hj, if_pos (by omega)]
    unfold zr
    rw [ite_self]
    rfl)
  obtain ⟨σ2, b1, b2, b3⟩ := m_sprC (c2 := lN (rlO g W 96 0 (fun _ => 0) gl)) 96 0 FU σ1 (by omega) (by unfold FU; omega) a3 (fun j hj => by omega)
  refine ⟨σ2, ?_, b2.trans a2, b3⟩
  refine Eq.trans e1 (Eq.trans a1 ?_)
  exact b1
theorem m_oddsL {m : St} {g : Nat → Int32} (hgm : ∀ c, c < 96 → m.1 (41, 0, 0) c = g c) (hg : ∀ c, c < 96 → ∃ k, k < 8 ∧ g c = nI k) {gl N : Nat} (hgl : gl < 96) (hN : N ≤ 10) {c4 : Int32} (kx : Int64 → Int64 → St → Option (Int64 × St)) : ∀ (k i fu : Nat) (σ : St) (b : Nat) (A : Nat → Nat), i + k = N → k < fu → σ.1 = m.1 → LX σ (49, 0, 0) (zr gl A) → b + sm A 96 = 4 ^ i → ∃ σ', L_X11_odds_112 (nI gl) (nI N) c4 fu (lN (b + A gl)) (lN (4 ^ i)) (nI i) σ kx = kx (lN ((odS g gl k (b, A)).1 + (odS g gl k (b, A)).2 gl)) (lN (4 ^ N)) σ' ∧ σ'.1 = m.1 := by
  intro k
  induction k with
  | zero =>
    intro i fu σ b A hk hf h1 h2 h3
    obtain ⟨f, rfl⟩ : ∃ f, fu = f + 1 := ⟨fu - 1, by omega⟩
    have e : i = N := by omega
    subst e
    refine ⟨σ, ?_, h1⟩
    simp (disch := omega) only [L_X11_odds_112, i_le, Nat.le_refl, ↓reduceIte, odS]
  | succ k ih =>
    intro i fu σ b A hk hf h1 h2 h3
    obtain ⟨f, rfl⟩ : ∃ f, fu = f + 1 := ⟨fu - 1, by omega⟩
    have z : ¬ N ≤ i := by omega
    have hp : 4 ^ i ≤ 4 ^ 10 := Nat.pow_le_pow_right (by omega) (by omega)
    have h410 : (4 : Nat) ^ 10 = 1048576 := by decide
    have hW : ∀ c, c < 96 → zr gl A c < 2 ^ 63 := by
      intro c hc
      have q1 := sm_part (f := A) hc
      have q2 : zr gl A c ≤ A c := by unfold zr; split <;> omega
      omega
    obtain ⟨σ1, b1, b2, b3⟩ := m_spreads hgm hg hgl hW h1 h2
    have hz := (sm_zr (gl := gl) (A := A) (n := 96)).1 hgl
    have hs : 4 * (b + A gl) + sm (rlA g (zr gl A)) 96 = 4 ^ (i + 1) := by
      rw [sm_rlA hg, Nat.pow_succ]
      omega
    obtain ⟨σ', c1, c2⟩ := ih (i + 1) f σ1 (4 * (b + A gl)) (rlA g (zr gl A)) (by omega) (by omega) b2 b3 hs
    refine ⟨σ', ?_, c2⟩
    have e4 : (4 : Int64) = lN 4 := rfl
    rw [odS, ← c1, L_X11_odds_112.eq_2, Nat.pow_succ]
    simp (disch := omega) only [i_le, z, ↓reduceIte, b1, bd_i, nam_i, i_al, e4, lN_add, lN_mul]
theorem m_odds58 {c gl : Nat} {c3 c4 : Int32} (hc : c < 96) (hgl : gl < 96) (kx : St → Option (Int64 × St)) : ∀ (k i fu : Nat) (τ : St), i + k = 96 → k < fu → (∀ j, j < i → τ.2 (49, 0, 0) j = lN (zr gl (adN c 1 (fun _ => 0)) j)) → ∃ τ', L_X11_odds_58 (nI c) (nI gl) c3 c4 fu (nI i) τ kx = kx τ' ∧ τ'.1 = τ.1 ∧ LX τ' (49, 0, 0) (zr gl (adN c 1 (fun _ => 0))) := by
  intro k
  induction k with
  | zero =>
    intro i fu τ hk hf h2
    obtain ⟨f, rfl⟩ : ∃ f, fu = f + 1 := ⟨fu - 1, by omega⟩
    have z : 96 ≤ i := by omega
    refine ⟨τ, ?_, rfl, fun j hj => h2 j (by omega)⟩
    simp (disch := omega) only [L_X11_odds_58, i_lel, z, ↓reduceIte]
  | succ k ih =>
    intro i fu τ hk hf h2
    obtain ⟨f, rfl⟩ : ∃ f, fu = f + 1 := ⟨fu - 1, by omega⟩
    have z : ¬ 96 ≤ i := by omega
    obtain ⟨τ', a1, a2, a3⟩ := ih (i + 1) f (uL τ (49, 0, 0) i (lN (zr gl (adN c 1 (fun _ => 0)) i))) (by omega) (by omega) (fun j hj => by
      by_cases e : j = i
      · subst e; rw [uL_at]
      · rw [uL_o e]; exact h2 j (by omega))
    refine ⟨τ', ?_, a2, a3⟩
    have z' : ¬ (96 : Int32) ≤ nI i := by rw [i_lel (by decide) (by omega)]; exact z
    rw [← a1, L_X11_odds_58.eq_2, if_neg z']
    by_cases e1 : i = c
    · subst e1
      rw [nam_i, if_pos rfl]
      by_cases e2 : i = gl
      · subst e2
        have ez : lN (zr i (adN i 1 (fun _ => 0)) i) = 0 := by unfold zr; rw [if_pos rfl]; rfl
        rw [ez, if_pos rfl]
        simp (disch := omega) only [inb_i, ck_i, nI_clamp, nam_i, i_al]
      · have e2' : ¬ nI i = nI gl := by rw [i_eq (by omega) (by omega)]; exact e2
        have ez : lN (zr gl (adN i 1 (fun _ => 0)) i) = 1 := by unfold zr adN; rw [if_neg e2, if_pos rfl]; rfl
        rw [ez, if_neg e2']
        simp (disch := omega) only [inb_i, ck_i, nI_clamp, nam_i, i_al]
    · have e1' : ¬ nI i = nI c := by rw [i_eq (by omega) (by omega)]; exact e1
      have ez : lN (zr gl (adN c 1 (fun _ => 0)) i) = 0 := by
        unfold zr adN
        rw [if_neg e1, ite_self]
        rfl
      rw [ez, nam_i, if_neg e1']
      simp (disch := omega) only [inb_i, ck_i, nI_clamp, nam_i, i_al]
