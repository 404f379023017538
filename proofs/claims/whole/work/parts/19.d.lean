/-! odds: told in least terms -/
def hv : Nat → Nat → Nat → Nat × Nat
  | 0, a, b => (a, b)
  | k + 1, a, b => if a % 2 = 0 then hv k (a / 2) (b / 2) else (a, b)
theorem gcd_odd {a : Nat} (h : a % 2 = 1) : ∀ k, Nat.gcd a (2 ^ k) = 1 := by
  intro k
  induction k with
  | zero => exact Nat.gcd_one_right a
  | succ k ih =>
    have hc : Nat.Coprime a (2 ^ k) := ih
    have h2 : Nat.Coprime a 2 := by
      show Nat.gcd a 2 = 1
      rw [Nat.gcd_comm, Nat.gcd_rec, h]
      rfl
    show Nat.gcd a (2 ^ (k + 1)) = 1
    rw [Nat.pow_succ]
    exact Nat.Coprime.mul_right hc h2
theorem hv_gcd : ∀ (k a : Nat), hv k a (2 ^ k) = (a / Nat.gcd a (2 ^ k), 2 ^ k / Nat.gcd a (2 ^ k)) := by
  intro k
  induction k with
  | zero =>
    intro a
    rw [hv, Nat.pow_zero, Nat.gcd_one_right, Nat.div_one]
  | succ k ih =>
    intro a
    rw [hv]
    by_cases h : a % 2 = 0
    · rw [if_pos h]
      obtain ⟨b, rfl⟩ : ∃ b, a = 2 * b := ⟨a / 2, by omega⟩
      have e1 : 2 * b / 2 = b := by omega
      have e2 : 2 ^ (k + 1) = 2 * 2 ^ k := by rw [Nat.pow_succ, Nat.mul_comm]
      have e3 : 2 * 2 ^ k / 2 = 2 ^ k := by omega
      rw [e1, e2, e3, ih, Nat.gcd_mul_left, Nat.mul_div_mul_left _ _ (by omega), Nat.mul_div_mul_left _ _ (by omega)]
    · rw [if_neg h, gcd_odd (by omega), Nat.div_one, Nat.div_one]
theorem sh1 {a : Nat} (h : a < 2 ^ 62) : lN a >>> ((1 : Int32).toInt64 &&& 63) = lN (a / 2) := by
  apply Int64.toInt_inj.mp
  have hD : (((1 : Int32).toInt64 &&& 63).toBitVec.smod 64).toNat = 1 := by decide
  have e : (lN a >>> ((1 : Int32).toInt64 &&& 63)).toInt = (lN a).toInt >>> 1 := by
    rw [← hD]
    exact BitVec.toInt_sshiftRight ..
  rw [e, Int.shiftRight_eq_div_pow, pk_lT (by omega), pk_lT (by omega)]
  omega
theorem an1 {a : Nat} (h : a < 2 ^ 62) : lN a &&& (1 : Int64) = lN (a % 2) := by
  apply Int64.toBitVec_inj.mp
  apply BitVec.eq_of_toNat_eq
  rw [Int64.toBitVec_and, BitVec.toNat_and]
  show (BitVec.ofNat 64 a).toNat &&& (BitVec.ofNat 64 1).toNat = (BitVec.ofNat 64 (a % 2)).toNat
  rw [BitVec.toNat_ofNat, BitVec.toNat_ofNat, BitVec.toNat_ofNat, Nat.mod_eq_of_lt (show a < 2 ^ 64 by omega), Nat.mod_eq_of_lt (show 1 < 2 ^ 64 by decide), Nat.mod_eq_of_lt (show a % 2 < 2 ^ 64 by omega)]
  exact Nat.and_two_pow_sub_one_eq_mod a 1
theorem x_halve {x : St} {n : Nat} {c4 : Int32} (hn : n ≤ 10) (kx : Int64 → Int64 → St → Option (Int64 × St)) : ∀ (k t a b fu : Nat), t + k = 2 * n → k < fu → a < 2 ^ 62 → b < 2 ^ 62 → L_X10_odds_80 (nI n) c4 fu (lN a) (lN b) (nI t) x kx = kx (lN (hv k a b).1) (lN (hv k a b).2) x := by
  intro k
  induction k with
  | zero =>
    intro t a b fu hk hf ha hb
    obtain ⟨f, rfl⟩ : ∃ f, fu = f + 1 := ⟨fu - 1, by omega⟩
    have z : 2 * n ≤ t := by omega
    simp (disch := omega) only [L_X10_odds_80, i_lm, i_le, z, ↓reduceIte, hv]
  | succ k ih =>
    intro t a b fu hk hf ha hb
    obtain ⟨f, rfl⟩ : ∃ f, fu = f + 1 := ⟨fu - 1, by omega⟩
    have z : ¬ 2 * n ≤ t := by omega
    have zz := lg_eq0 (n := a % 2) (by omega)
    rw [hv]
    by_cases h : a % 2 = 0
    · rw [if_pos h, ← ih (t + 1) (a / 2) (b / 2) f (by omega) (by omega) (by omega) (by omega), L_X10_odds_80.eq_2]
      rw [i_lm, if_neg (by rw [i_le (by omega) (by omega)]; exact z), an1 ha, if_pos (by rw [zz]; exact h), sh1 ha, sh1 hb, nam_i, nam_i, nam_i, i_al]
    · rw [if_neg h, L_X10_odds_80.eq_2]
      rw [i_lm, if_neg (by rw [i_le (by omega) (by omega)]; exact z), an1 ha, if_neg (by rw [zz]; exact h)]
theorem m_told {c0 c2 : Int64} {c4 : Int32} {σ : St} (kx : Int64 → St → Option (Int64 × St)) : ∀ (k a b fu : Nat), b < 2 ^ k → 2 * k + 1 < fu → a < 2 ^ 62 → b < 2 ^ 62 → L_X11_told_6 c0 c2 c4 fu (lN a) (lN b) σ kx = kx (lN (Nat.gcd b a)) σ := by
  have one : ∀ (a b f : Nat), 0 < b → a < 2 ^ 62 → b < 2 ^ 62 → L_X11_told_6 c0 c2 c4 (f + 1) (lN a) (lN b) σ kx = L_X11_told_6 c0 c2 c4 f (lN b) (lN (a % b)) σ kx := by
    intro a b f hb0 ha hb
    have zz := lg_eq0 (n := b) (by omega)
    have n0 : decide (¬ lN b = 0) = true := decide_eq_true (fun q => by
      have : lN b = lN 0 := q
      rw [pk_lEQ (by omega) (by omega)] at this
      omega)
    rw [L_X11_told_6.eq_2, if_neg (by rw [zz]; omega), n0, ck_i, nam_i, pk_lRem (by omega) hb0 (by omega)]
  have zer : ∀ (a f : Nat), L_X11_told_6 c0 c2 c4 (f + 1) (lN a) (lN 0) σ kx = kx (lN a) σ := by
    intro a f
    have zz := lg_eq0 (n := 0) (by omega)
    rw [L_X11_told_6.eq_2, if_pos (by rw [zz])]
  intro k
  induction k with
  | zero =>
    intro a b fu hb hf ha hb2
    obtain ⟨f, rfl⟩ : ∃ f, fu = f + 1 := ⟨fu - 1, by omega⟩
    have : b = 0 := by have : (2 : Nat) ^ 0 = 1 := rfl; omega
    subst this
    rw [zer, Nat.gcd_zero_left]
  | succ k ih =>
    intro a b fu hb hf ha hb2
    obtain ⟨f, rfl⟩ : ∃ f, fu = f + 1 + 1 := ⟨fu - 2, by omega⟩
    rcases Nat.eq_zero_or_pos b with z | z
    · subst z
      rw [zer, Nat.gcd_zero_left]
    · rw [one a b (f + 1) z ha hb2, Nat.gcd_rec b a]
      have hr : a % b < b := Nat.mod_lt _ z
      generalize a % b = r at *
      rcases Nat.eq_zero_or_pos r with z2 | z2
      · subst z2
        rw [zer, Nat.gcd_zero_left]
      · rw [one b r f z2 hb2 (by omega), Nat.gcd_rec r b]
        have hr2 : b % r < r := Nat.mod_lt _ z2
        have hdm := Nat.div_add_mod b r
        have hq : 1 ≤ b / r := (Nat.one_le_div_iff z2).mpr (Nat.le_of_lt hr)
        have hm : r * 1 ≤ r * (b / r) := Nat.mul_le_mul_left r hq
        have hp : 2 ^ (k + 1) = 2 * 2 ^ k := by rw [Nat.pow_succ, Nat.mul_comm]
        exact ih r (b % r) f (by omega) (by omega) (by omega) (by omega)
theorem pw4 : ∀ n, n ≤ 10 → (1 : Int64) <<< ((2 * nI n).toInt64 &&& 63) = lN (4 ^ n) := by decide +kernel
theorem s_odds (a b c d : Int32) : Sim (F_X10_odds a b c d) (F_X11_odds a b c d) := by
  intro x m h
  obtain ⟨hGc, hMc⟩ := Rel_cells h
  by_cases ha : IV 0 95 a
  · obtain ⟨c0, _, hc, rfl⟩ := id ha
    have hc' : c0 < 96 := by omega
    by_cases hb : IV 0 95 b
    · obtain ⟨gl, _, hgl, rfl⟩ := id hb
      have hgl' : gl < 96 := by omega
      by_cases hcn : IV 0 10 c
      · obtain ⟨N, _, hN, rfl⟩ := id hcn
        by_cases hd : IV 0 1 d
        · obtain ⟨y, _, hy, rfl⟩ := id hd
          have hk5 : m.1 (41, 0, 0) c0 = fx 0 x c0 := hMc c0 (Or.inl hc')
          by_cases h5 : fx 0 x c0 = 5
          · refine Sim_same (r := -2) h ?_ ?_
            · rw [F_X10_odds, x_cellt hc', bd_i, if_neg (by decide), x_cellt hgl', bd_i, if_neg (by decide), x_wt (by omega) (by omega) (by omega), bd_i, if_neg (by decide), x_wt (by omega) (by omega) (by omega), bd_i, if_neg (by decide), x_kindS KX_rfl hc', bd_i, if_pos h5]
            · rw [F_X11_odds, m_cellt hc', bd_i, if_neg (by decide), m_cellt hgl', bd_i, if_neg (by decide), m_wt (by omega) (by omega) (by omega), bd_i, if_neg (by decide), m_wt (by omega) (by omega) (by omega), bd_i, if_neg (by decide), inb_i (by omega) (by omega), ck_i, nI_clamp (by omega), hk5, if_pos h5]
          · obtain ⟨σ1, e1, e2, e3⟩ := x_beenIn (x := x) (g := fx 0 x) (fun _ _ => rfl) hGc.1 hc' hgl' hN
            have hgm : ∀ c, c < 96 → m.1 (41, 0, 0) c = fx 0 x c := fun c hc => hMc c (Or.inl hc)
            obtain ⟨τ, f1, f2, f3⟩ := m_odds58 (c := c0) (gl := gl) (c3 := nI N) (c4 := nI y) hc' hgl' (fun  (σ23 : St) => nam (fun (y24 : Int64) (σ26 : St) => L_X11_odds_112 (nI gl) (nI N) (nI y) FU y24 (1 : Int64) (0 : Int32) σ26 (fun (y34 : Int64) (y35 : Int64) (σ33 : St) => bd (F_X11_told y34 y35 (nI y) σ33) fun r37 σ36 => some (r37, σ36))) fun k25 => (if nI c0 = nI gl then k25 (1 : Int64) σ23 else k25 (0 : Int64) σ23)) 96 0 FU m (by omega) (by unfold FU; omega) (fun j hj => by omega)
            have hs : 0 + sm (adN c0 1 (fun _ => 0)) 96 = 4 ^ 0 := by rw [sm_ad.1 hc', sm_z]
            obtain ⟨σ2, g1, g2⟩ := m_oddsL (m := m) (c4 := nI y) hgm hGc.1 hgl' hN (fun (y34 : Int64) (y35 : Int64) (σ33 : St) => bd (F_X11_told y34 y35 (nI y) σ33) fun r37 σ36 => some (r37, σ36)) N 0 FU τ 0 (adN c0 1 (fun _ => 0)) (by omega) (by unfold FU; omega) f2 f3 hs
            have hle := sm_part (f := (odS (fx 0 x) gl N (0, adN c0 1 (fun _ => 0))).2) hgl'
            generalize odS (fx 0 x) gl N (0, adN c0 1 (fun _ => 0)) = S at *
            have hp : 4 ^ N ≤ 4 ^ 10 := Nat.pow_le_pow_right (by omega) hN
            have h410 : (4 : Nat) ^ 10 = 1048576 := by decide
            have hB : S.1 + S.2 gl ≤ 4 ^ N := by omega
            generalize S.1 + S.2 gl = B at *
            have e42 : (4 : Nat) ^ N = 2 ^ (2 * N) := by rw [Nat.pow_mul]
            have hg0 : 0 < Nat.gcd B (4 ^ N) := Nat.gcd_pos_of_pos_right _ (Nat.pow_pos (by omega))
            have hgle : Nat.gcd B (4 ^ N) ≤ 4 ^ N := Nat.gcd_le_right _ (by
              exact Nat.pow_pos (by omega))
            have h221 : B < 2 ^ 21 := by
              have : (2 : Nat) ^ 21 = 2097152 := by decide
              omega
            refine Sim_scr (r := if nI y = 0 then lN (B / Nat.gcd B (4 ^ N)) else lN (4 ^ N / Nat.gcd B (4 ^ N))) (x' := σ1) (m' := σ2) h ?_ ?_ (KX_eq e2) (KM_eq g2)
            · have H := fun kx => x_halve (x := σ1) (n := N) (c4 := nI y) hN kx (2 * N) 0 B (4 ^ N) FU (by omega) (by unfold FU; omega) (by omega) (by omega)
              rw [e42, hv_gcd, ← e42] at H
              rw [F_X10_odds, x_cellt hc', bd_i, if_neg (by decide), x_cellt hgl', bd_i, if_neg (by decide), x_wt (by omega) (by omega) (by omega), bd_i, if_neg (by decide), x_wt (by omega) (by omega) (by omega), bd_i, if_neg (by decide), x_kindS KX_rfl hc', bd_i, if_neg h5, e1, bd_i, pw4 N hN]
              refine (H _).trans ?_
              split <;> rfl
            · have T : F_X11_told (lN B) (lN (4 ^ N)) (nI y) σ2 = some (if nI y = 0 then lN (B / Nat.gcd B (4 ^ N)) else lN (4 ^ N / Nat.gcd B (4 ^ N)), σ2) := by
                rw [F_X11_told, m_told _ 21 (4 ^ N) B FU h221 (by unfold FU; omega) (by omega) (by omega)]
                generalize Nat.gcd B (4 ^ N) = G at *
                have n0 : decide (¬ lN G = 0) = true := decide_eq_true (fun q => by
                  have : lN G = lN 0 := q
                  rw [pk_lEQ (by omega) (by omega)] at this
                  omega)
                rw [n0, ck_i, ck_i, pk_lDiv (by omega) hg0 (by omega), pk_lDiv (by omega) hg0 (by omega)]
                split <;> rfl
              have g1' : L_X11_odds_112 (nI gl) (nI N) (nI y) FU (lN (0 + adN c0 1 (fun _ => 0) gl)) (1 : Int64) (0 : Int32) τ (fun (y34 : Int64) (y35 : Int64) (σ33 : St) => bd (F_X11_told y34 y35 (nI y) σ33) fun r37 σ36 => some (r37, σ36)) = bd (F_X11_told (lN B) (lN (4 ^ N)) (nI y) σ2) fun r37 σ36 => some (r37, σ36) := g1
              rw [T, bd_i] at g1'
              rw [F_X11_odds, m_cellt hc', bd_i, if_neg (by decide), m_cellt hgl', bd_i, if_neg (by decide), m_wt (by omega) (by omega) (by omega), bd_i, if_neg (by decide), m_wt (by omega) (by omega) (by omega), bd_i, if_neg (by decide), inb_i (by omega) (by omega), ck_i, nI_clamp (by omega), hk5, if_neg h5]
              refine Eq.trans f1 ?_
              rw [nam_i, ← g1']
              by_cases e : c0 = gl
              · have ea : lN (0 + adN c0 1 (fun _ => 0) gl) = 1 := by unfold adN; rw [if_pos e.symm]; rfl
                rw [ea, if_pos (by rw [e])]
              · have ea : lN (0 + adN c0 1 (fun _ => 0) gl) = 0 := by unfold adN; rw [if_neg (fun q => e q.symm)]; rfl
                rw [ea, if_neg (by rw [i_eq (by omega) (by omega)]; exact e)]
        · refine Sim_same (r := -1) h ?_ ?_
          · rw [F_X10_odds, x_cellt hc', bd_i, if_neg (by decide), x_cellt hgl', bd_i, if_neg (by decide), x_wt (by omega) (by omega) (by omega), bd_i, if_neg (by decide), x_wf hd (by omega) (by omega), bd_i, if_pos rfl]
          · rw [F_X11_odds, m_cellt hc', bd_i, if_neg (by decide), m_cellt hgl', bd_i, if_neg (by decide), m_wt (by omega) (by omega) (by omega), bd_i, if_neg (by decide), m_wf hd (by omega) (by omega), bd_i, if_pos rfl]
      · refine Sim_same (r := -1) h ?_ ?_
        · rw [F_X10_odds, x_cellt hc', bd_i, if_neg (by decide), x_cellt hgl', bd_i, if_neg (by decide), x_wf hcn (by omega) (by omega), bd_i, if_pos rfl]
        · rw [F_X11_odds, m_cellt hc', bd_i, if_neg (by decide), m_cellt hgl', bd_i, if_neg (by decide), m_wf hcn (by omega) (by omega), bd_i, if_pos rfl]
    · refine Sim_same (r := -1) h ?_ ?_
      · rw [F_X10_odds, x_cellt hc', bd_i, if_neg (by decide), x_cellf hb, bd_i, if_pos rfl]
      · rw [F_X11_odds, m_cellt hc', bd_i, if_neg (by decide), m_cellf hb, bd_i, if_pos rfl]
  · refine Sim_same (r := -1) h ?_ ?_
    · rw [F_X10_odds, x_cellf ha, bd_i, if_pos rfl]
    · rw [F_X11_odds, m_cellf ha, bd_i, if_pos rfl]
