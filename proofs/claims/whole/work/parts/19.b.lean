/-! odds: both loops -/
theorem x_fill19 {q : Nat} {v : Int64} : ∀ (k i fu : Nat) (τ : St), i + k = 96 → k < fu → ∃ τ', L_J7_fill_d0a16_t19_6 q v 96 fu (nI i) τ = some ((), τ') ∧ τ'.1 = τ.1 ∧ (∀ d, d ≠ (19, q, 0) → τ'.2 d = τ.2 d) ∧ (∀ j, j < 96 → τ'.2 (19, q, 0) j = if i ≤ j then v else τ.2 (19, q, 0) j) := by
  intro k
  induction k with
  | zero =>
    intro i fu τ hk hf
    obtain ⟨f, rfl⟩ : ∃ f, fu = f + 1 := ⟨fu - 1, by omega⟩
    have z : 96 ≤ i := by omega
    refine ⟨τ, ?_, rfl, fun _ _ => rfl, fun j hj => by rw [if_neg (by omega)]⟩
    simp (disch := omega) only [L_J7_fill_d0a16_t19_6, i_lel, z, ↓reduceIte]
  | succ k ih =>
    intro i fu τ hk hf
    obtain ⟨f, rfl⟩ : ∃ f, fu = f + 1 := ⟨fu - 1, by omega⟩
    have z : ¬ 96 ≤ i := by omega
    obtain ⟨τ', a1, a2, a3, a4⟩ := ih (i + 1) f (uL τ (19, q, 0) i v) (by omega) (by omega)
    refine ⟨τ', ?_, a2, fun d hd => by rw [a3 d hd, uL_ne hd], fun j hj => ?_⟩
    · rw [← a1]
      simp (disch := omega) only [L_J7_fill_d0a16_t19_6.eq_2, i_lel, z, ↓reduceIte, inb_i, ck_i, nI_clamp, nam_i, i_al]
    · rw [a4 j hj]
      by_cases e : j = i
      · subst e
        rw [if_neg (by omega), if_pos (by omega), uL_at]
      · rw [uL_o e]
        by_cases e2 : i ≤ j
        · rw [if_pos (by omega), if_pos e2]
        · rw [if_neg (by omega), if_neg e2]
theorem x_rollO {x : St} {g : Nat → Int32} (hgx : ∀ c, c < 96 → fx 0 x c = g c) (hg : ∀ c, c < 96 → ∃ k, k < 8 ∧ g c = nI k) {W : Nat → Nat} (hW : ∀ c, c < 96 → W c < 2 ^ 63) (kx : St → Option (Unit × St)) : ∀ (k c fu : Nat) (σ : St) (A : Nat → Nat), c + k = 96 → k < fu → σ.1 = x.1 → LX σ (19, 0, 0) W → LX σ (19, 1, 0) A → ∃ σ', L_X4_rollAll_10 0 fu (nI c) σ kx = kx σ' ∧ σ'.1 = x.1 ∧ LX σ' (19, 1, 0) (rlO g W k c A) := by
  intro k
  induction k with
  | zero =>
    intro c fu σ A hk hf h1 h2 h3
    obtain ⟨f, rfl⟩ : ∃ f, fu = f + 1 := ⟨fu - 1, by omega⟩
    have z : 96 ≤ c := by omega
    refine ⟨σ, ?_, h1, h3⟩
    simp (disch := omega) only [L_X4_rollAll_10, i_lel, z, ↓reduceIte]
  | succ k ih =>
    intro c fu σ A hk hf h1 h2 h3
    obtain ⟨f, rfl⟩ : ∃ f, fu = f + 1 := ⟨fu - 1, by omega⟩
    have z : ¬ 96 ≤ c := by omega
    have hc : c < 96 := by omega
    have hw := h2 c hc
    rw [rlO]
    by_cases z0 : W c = 0
    · obtain ⟨σ', a1, a2, a3⟩ := ih (c + 1) f σ A (by omega) (by omega) h1 h2 h3
      refine ⟨σ', ?_, a2, by rw [z0, rlI_0]; exact a3⟩
      rw [← a1, L_X4_rollAll_10.eq_2]
      have zz : lg_cmp (lN (W c)) 0 = 0 := by rw [lg_eq0 (hW c hc)]; exact z0
      simp (disch := omega) only [i_lel, z, ↓reduceIte, inb_i, ck_i, nI_clamp, hw, zz, nam_i, i_al]
    · obtain ⟨σ1, b1, b2, b3, b4⟩ := x_rollI hgx hg hc (fun (σ23 : St) => L_X4_rollAll_10 0 f (nI (c + 1)) σ23 kx) 4 0 FU σ A (by omega) (by unfold FU; omega) h1 hw h3
      obtain ⟨σ', a1, a2, a3⟩ := ih (c + 1) f σ1 (rlI g (W c) c 4 0 A) (by omega) (by omega) b2 (fun j hj => by rw [b3]; exact h2 j hj) b4
      refine ⟨σ', ?_, a2, a3⟩
      rw [← a1, L_X4_rollAll_10.eq_2]
      have zz : ¬ lg_cmp (lN (W c)) 0 = 0 := by rw [lg_eq0 (hW c hc)]; exact z0
      simp (disch := omega) only [i_lel, z, ↓reduceIte, inb_i, ck_i, nI_clamp, hw, zz, nam_i, i_al]
      exact b1
theorem x_rollAll {x : St} {g : Nat → Int32} (hgx : ∀ c, c < 96 → fx 0 x c = g c) (hg : ∀ c, c < 96 → ∃ k, k < 8 ∧ g c = nI k) {W : Nat → Nat} (hW : ∀ c, c < 96 → W c < 2 ^ 63) {σ : St} (h1 : σ.1 = x.1) (h2 : LX σ (19, 0, 0) W) : ∃ σ', F_X4_rollAll 0 σ = some ((), σ') ∧ σ'.1 = x.1 ∧ LX σ' (19, 0, 0) (rlA g W) := by
  have c0 : (0 : Int32).toNatClampNeg = 0 := by decide
  have c96 : (96 : Int32).toNatClampNeg = 96 := by decide
  have ec : cpk (0 : Int32) (0 : Int32) (96 : Int32) 96 96 = true := by decide
  obtain ⟨τ, e1, e2, e3, e4⟩ := x_fill19 (q := 1) (v := 0) 96 0 FU σ (by omega) (by unfold FU; omega)
  have eF : F_J7_fill_d0a16_t19 1 0 σ = some ((), τ) := e1
  obtain ⟨σ1, a1, a2, a3⟩ := x_rollO hgx hg hW (fun (σ26 : St) => ck (cpk (0 : Int32) (0 : Int32) (96 : Int32) 96 96) (nam (uRL σ26 (19, 0, 0) (va_cpy (σ26.2 (19, 1, 0)) (σ26.2 (19, 0, 0)) (0 : Int32).toNatClampNeg (0 : Int32).toNatClampNeg (96 : Int32).toNatClampNeg)) fun σ28 => some ((), σ28))) 96 0 FU τ (fun _ => 0) (by omega) (by unfold FU; omega) (by rw [e2, h1]) (fun j hj => by rw [e3 _ (by decide)]; exact h2 j hj) (fun j hj => by rw [e4 j hj, if_pos (by omega)]; rfl)
  refine ⟨uRL σ1 (19, 0, 0) (va_cpy (σ1.2 (19, 1, 0)) (σ1.2 (19, 0, 0)) 0 0 96), ?_, a2, ?_⟩
  · rw [F_X4_rollAll, eF, bd_i]
    refine Eq.trans a1 ?_
    rw [ec, ck_i, nam_i, c0, c96]
  · intro j hj
    have e : va_cpy (σ1.2 (19, 1, 0)) (σ1.2 (19, 0, 0)) 0 0 96 j = σ1.2 (19, 1, 0) j := by simp [va_cpy, hj]
    rw [uRL_self, e]
    exact a3 j hj
theorem x_take {σ : St} {A : Nat → Nat} {gl : Nat} (hg : gl < 96) (h : LX σ (19, 0, 0) A) : ∃ σ', F_X4_takeOut (nI gl) σ = some (lN (A gl), σ') ∧ σ'.1 = σ.1 ∧ LX σ' (19, 0, 0) (zr gl A) := by
  refine ⟨uL σ (19, 0, 0) gl 0, ?_, rfl, ?_⟩
  · simp (disch := omega) only [F_X4_takeOut, inb_i, ck_i, nI_clamp, nam_i]
    rw [h gl hg]
  · intro j hj
    unfold zr
    by_cases e : j = gl
    · subst e; rw [uL_at, if_pos rfl]; rfl
    · rw [uL_o e, if_neg e]; exact h j hj
theorem x_beenL {x : St} {g : Nat → Int32} (hgx : ∀ c, c < 96 → fx 0 x c = g c) (hg : ∀ c, c < 96 → ∃ k, k < 8 ∧ g c = nI k) {gl N : Nat} (hgl : gl < 96) (hN : N ≤ 10) (kx : Int64 → St → Option (Int64 × St)) : ∀ (k i fu : Nat) (σ : St) (b : Nat) (A : Nat → Nat), i + k = N → k < fu → σ.1 = x.1 → LX σ (19, 0, 0) A → b + sm A 96 = 4 ^ i → ∃ σ', L_X4_beenIn_37 0 (nI gl) (nI N) fu (lN b) (nI i) σ kx = kx (lN (odS g gl k (b, A)).1) σ' ∧ σ'.1 = x.1 ∧ LX σ' (19, 0, 0) (odS g gl k (b, A)).2 ∧ (odS g gl k (b, A)).1 + sm (odS g gl k (b, A)).2 96 = 4 ^ N := by
  intro k
  induction k with
  | zero =>
    intro i fu σ b A hk hf h1 h2 h3
    obtain ⟨f, rfl⟩ : ∃ f, fu = f + 1 := ⟨fu - 1, by omega⟩
    have z : N ≤ i := by omega
    have e : i = N := by omega
    refine ⟨σ, ?_, h1, h2, by rw [← e]; exact h3⟩
    simp (disch := omega) only [L_X4_beenIn_37, i_le, z, ↓reduceIte, odS]
  | succ k ih =>
    intro i fu σ b A hk hf h1 h2 h3
    obtain ⟨f, rfl⟩ : ∃ f, fu = f + 1 := ⟨fu - 1, by omega⟩
    have z : ¬ N ≤ i := by omega
    have hp : 4 ^ i ≤ 4 ^ 10 := Nat.pow_le_pow_right (by omega) (by omega)
    have h410 : (4 : Nat) ^ 10 = 1048576 := by decide
    obtain ⟨σ1, a1, a2, a3⟩ := x_take hgl h2
    have hW : ∀ c, c < 96 → zr gl A c < 2 ^ 63 := by
      intro c hc
      have q1 := sm_part (f := A) hc
      have q2 : zr gl A c ≤ A c := by unfold zr; split <;> omega
      omega
    obtain ⟨σ2, b1, b2, b3⟩ := x_rollAll hgx hg hW (a2.trans h1) a3
    have hz := (sm_zr (gl := gl) (A := A) (n := 96)).1 hgl
    have hs : 4 * (b + A gl) + sm (rlA g (zr gl A)) 96 = 4 ^ (i + 1) := by
      rw [sm_rlA hg, Nat.pow_succ]
      omega
    obtain ⟨σ', c1, c2, c3, c4⟩ := ih (i + 1) f σ2 (4 * (b + A gl)) (rlA g (zr gl A)) (by omega) (by omega) b2 b3 hs
    refine ⟨σ', ?_, c2, c3, c4⟩
    rw [odS, ← c1, L_X4_beenIn_37.eq_2]
    have e4 : (4 : Int64) = lN 4 := rfl
    simp (disch := omega) only [i_le, z, ↓reduceIte, a1, bd_i, b1, nam_i, i_al, e4, lN_add, lN_mul]
theorem x_beenIn {x : St} {g : Nat → Int32} (hgx : ∀ c, c < 96 → fx 0 x c = g c) (hg : ∀ c, c < 96 → ∃ k, k < 8 ∧ g c = nI k) {c gl N : Nat} (hc : c < 96) (hgl : gl < 96) (hN : N ≤ 10) : ∃ σ', F_X4_beenIn 0 (nI c) (nI gl) (nI N) x = some (lN ((odS g gl N (0, adN c 1 (fun _ => 0))).1 + (odS g gl N (0, adN c 1 (fun _ => 0))).2 gl), σ') ∧ σ'.1 = x.1 ∧ (odS g gl N (0, adN c 1 (fun _ => 0))).1 + sm (odS g gl N (0, adN c 1 (fun _ => 0))).2 96 = 4 ^ N := by
  obtain ⟨τ, e1, e2, e3, e4⟩ := x_fill19 (q := 0) (v := 0) 96 0 FU x (by omega) (by unfold FU; omega)
  have eF : F_J7_fill_d0a16_t19 0 0 x = some ((), τ) := e1
  have hA : LX (uL τ (19, 0, 0) c 1) (19, 0, 0) (adN c 1 (fun _ => 0)) := by
    intro j hj
    unfold adN
    by_cases e : j = c
    · subst e; rw [uL_at, if_pos rfl]; rfl
    · rw [uL_o e, if_neg e, e4 j hj, if_pos (by omega)]; rfl
  have hs : 0 + sm (adN c 1 (fun _ => 0)) 96 = 4 ^ 0 := by
    rw [sm_ad.1 hc, sm_z]
  obtain ⟨σ1, a1, a2, a3, a4⟩ := x_beenL hgx hg hgl hN (fun (y19 : Int64) (σ18 : St) => bd (F_X4_takeOut (nI gl) σ18) fun r21 σ20 => some (y19 + r21, σ20)) N 0 FU (uL τ (19, 0, 0) c 1) 0 (adN c 1 (fun _ => 0)) (by omega) (by unfold FU; omega) e2 hA hs
  obtain ⟨σ2, b1, b2, b3⟩ := x_take hgl a3
  refine ⟨σ2, ?_, b2.trans a2, a4⟩
  rw [F_X4_beenIn, x_cellt hc, bd_i, if_neg (by decide), x_cellt hgl, bd_i, if_neg (by decide), eF, bd_i, inb_i (by omega) (by omega), ck_i, nI_clamp (by omega), nam_i]
  refine Eq.trans a1 ?_
  rw [b1, bd_i, lN_add]
/-! the model's -/
theorem m_dst {m σ : St} {g : Nat → Int32} (h1 : σ.1 = m.1) (hgm : ∀ c, c < 96 → m.1 (41, 0, 0) c = g c) (hg : ∀ c, c < 96 → ∃ k, k < 8 ∧ g c = nI k) {c v : Nat} (hc : c < 96) (hv : v < 4) {α : Type} (K : Int32 → St → Option (α × St)) : (nam (fun (y8 : Int32) (σ10 : St) => bd (F_X11_nextTo (nI c) y8 σ10) fun r12 σ11 => ck (inb (nI c) 576) (nam K fun k16 => (if (σ11.1 (41, 0, 0) ((nI c).toNatClampNeg)) = (6 : Int32) then k16 (nI c) σ11 else bd (F_X11_isWall r12 σ11) fun r34 σ33 => (if r34 = 0 then k16 r12 σ33 else k16 (nI c) σ33)))) fun k9 => (if (4 : Int32) ≤ (σ.1 (41, 0, 0) ((nI c).toNatClampNeg)) then k9 (nI v) σ else ck (inb (nI c) 576) (k9 (σ.1 (41, 0, 0) ((nI c).toNatClampNeg)) σ))) = K (nI (dst g c v)) σ := by
  obtain ⟨k, hk, hgk⟩ := hg c hc
  have e41 : ∀ q, q < 96 → σ.1 (41, 0, 0) q = g q := fun q hq => by rw [h1, hgm q hq]
  have fin : ∀ j, j < 4 → (bd (F_X11_nextTo (nI c) (nI j) σ) fun r12 σ11 => ck (inb (nI c) 576) (nam K fun k16 => (if (σ11.1 (41, 0, 0) ((nI c).toNatClampNeg)) = (6 : Int32) then k16 (nI c) σ11 else bd (F_X11_isWall r12 σ11) fun r34 σ33 => (if r34 = 0 then k16 r12 σ33 else k16 (nI c) σ33)))) = K (nI (if g c = 6 then c else if knd g (nx (nI c) (nI j)) = 5 then c else (nx (nI c) (nI j)).toNatClampNeg)) σ := by
    intro j hj
    rw [m_next, nx_eq c hc j hj, bd_i, inb_i (by omega) (by omega), ck_i, nam_i, nI_clamp (by omega), e41 c hc]
    by_cases z6 : g c = 6
    · rw [if_pos z6, if_pos z6]
    · rw [if_neg z6, if_neg z6]
      rcases nx_in c hc j hj with h | ⟨q, hq, h, hqc⟩
      · rw [h, m_wall4, bd_i, if_neg (by decide), if_pos (by rfl)]
      · have hkn : knd g (nI q) = g q := by
          rw [knd, if_neg (by rw [i_nm4 (by omega)]; exact not_false), nI_clamp (by omega)]
        rw [h, m_wallS hq, bd_i, e41 q hq, hkn, nI_clamp (by omega)]
        by_cases z5 : g q = 5
        · rw [if_pos z5, if_neg (by decide), if_pos z5]
        · rw [if_neg z5, if_pos rfl, if_neg z5]
  rw [nam_i, inb_i (by omega) (by omega), ck_i, nI_clamp (by omega), e41 c hc]
  unfold dst
  by_cases z4 : 4 ≤ g c
  · rw [if_pos z4]
    rw [nam_i, if_pos z4]
    have := fin v hv
    rw [inb_i (by omega) (by omega), nI_clamp (by omega)] at this
    exact this
  · have hk4 : k < 4 := by
      rw [hgk, i_lel (by decide) (by omega)] at z4
      omega
    rw [if_neg z4]
    rw [nam_i, if_neg z4]
    have := fin k hk4
    rw [inb_i (by omega) (by omega), nI_clamp (by omega), ← hgk] at this
    exact this
