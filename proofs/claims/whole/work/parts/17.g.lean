/-! mend: the model's trials, the call -/
theorem mB_n {B : Nat} (h : B ≤ 400) : mB B = nI B := if_neg (by omega)
section MENDM
variable {m : St} {G : Nat → Int32} {tg : Int32} {c s w k0 : Nat}
theorem m_mdI (hR : RG (m.1 (43, 0, 0))) (hGc : Gc G) (hA : Ag m G) (hc : c < 96) (hs : 1 ≤ s) (hs2 : s ≤ 60) (hw : w < 4) (hk : G c = nI k0) (hk8 : k0 < 8) (hsh : ¬ (k0 = 5 ∨ k0 = 6)) {u ku : Nat} (hu : u < 96) (hku : G u = nI ku) (hk4 : ku ≤ 4) {o : Option Nat} (ho : full (m.1 (43, 0, 0)) tg c s w G u ku = o) (ho4 : o.getD 401 ≤ 401) {c5 : Int32} (kx : Int32 → Int32 → St → Option (Int32 × St)) : ∀ (k v fu : Nat) (S : Nat × Option (Nat × Nat)) (vv a1 a2 a3 a4 a5 : Int32), v + k = 5 → k < fu → S.1 ≤ o.getD 401 → ∃ vv' b1 b2 b3 b4 b5, L_X11_mend_84 (nI c) (nI s) (nI w) tg c5 (nI u) (nI ku) fu (mB S.1) (mP S.2) (nI v) (po (uI m (41, 0, 0) u vv) a1 a2 a3 a4 a5) kx = kx (mB (trI (full (m.1 (43, 0, 0)) tg c s w G) u k v S).1) (mP (trI (full (m.1 (43, 0, 0)) tg c s w G) u k v S).2) (po (uI m (41, 0, 0) u vv') b1 b2 b3 b4 b5) := by
  intro k
  induction k with
  | zero =>
    intro v fu S vv a1 a2 a3 a4 a5 hk' hf hS
    obtain ⟨f, rfl⟩ : ∃ f, fu = f + 1 := ⟨fu - 1, by omega⟩
    have z : 4 < v := by omega
    refine ⟨vv, a1, a2, a3, a4, a5, ?_⟩
    simp (disch := omega) only [L_X11_mend_84, i_ltl, z, ↓reduceIte, trI]
  | succ k ih =>
    intro v fu S vv a1 a2 a3 a4 a5 hk' hf hS
    obtain ⟨f, rfl⟩ : ∃ f, fu = f + 1 := ⟨fu - 1, by omega⟩
    have z : ¬ 4 < v := by omega
    have z4 : ¬ 4 < ku := by omega
    have est : uI (po (uI m (41, 0, 0) u vv) a1 a2 a3 a4 a5) (41, 0, 0) u (nI v) = po (uI m (41, 0, 0) u (nI v)) a1 a2 a3 a4 a5 := by
      rw [pq_o (by omega), uI_uI]
    rw [trI]
    by_cases hv : v = ku
    · subst hv
      rw [tr1_no ho hS]
      obtain ⟨vv', b1, b2, b3, b4, b5, e⟩ := ih (v + 1) f S (nI v) a1 a2 a3 a4 a5 (by omega) (by omega) hS
      refine ⟨vv', b1, b2, b3, b4, b5, ?_⟩
      rw [← e]
      simp (disch := omega) only [L_X11_mend_84.eq_2, i_ltl, z, z4, ↓reduceIte, inb_i, ck_i, nI_clamp, nam_i, est, i_al]
    · have hv' : ¬ nI v = nI ku := by rw [i_eq (by omega) (by omega)]; exact hv
      have e41 : (po (uI m (41, 0, 0) u (nI v)) a1 a2 a3 a4 a5).1 (41, 0, 0) = upd (m.1 (41, 0, 0)) u (nI v) := by rw [po_t (by omega), rd_e]
      have e43 : (po (uI m (41, 0, 0) u (nI v)) a1 a2 a3 a4 a5).1 (43, 0, 0) = m.1 (43, 0, 0) := by rw [po_t (by omega), rd_t (by omega)]
      obtain ⟨k', b1, b2, b3⟩ := open_u (u := u) (v := v) (by omega) hk hk8 hsh
      have hAu : Ag (po (uI m (41, 0, 0) u (nI v)) a1 a2 a3 a4 a5) (upd G u (nI v)) := by
        refine ⟨fun c hc => ?_, ?_, ?_⟩
        · rw [e41]
          by_cases e : c = u
          · subst e; rw [pk_us, pk_us]
          · rw [pk_un e, pk_un e, hA.1 c hc]
        · rw [e41, pk_un (by omega), pk_un (by omega), hA.2.1]
        · rw [e41, pk_un (by omega), pk_un (by omega), hA.2.2]
      obtain ⟨g', eR⟩ := m_reachOf (m := po (uI m (41, 0, 0) u (nI v)) a1 a2 a3 a4 a5) (tg := tg) (by rw [e43]; exact hR) hAu (Gc_u hGc hu (by omega)) hc hs hs2 hw b3 b1 b2
      rw [e43] at eR
      have eR' : F_X11_reachOf (nI c) (nI s) (nI w) tg (po (uI m (41, 0, 0) u (nI v)) a1 a2 a3 a4 a5) = some (rI 0 (full (m.1 (43, 0, 0)) tg c s w G u v), po (uI m (41, 0, 0) u (nI v)) (g' 96) (g' 108) (g' 120) (g' 132) (g' 144)) := by
        rw [eR, poG, po_po]
        rfl
      have ih' := fun S hS => ih (v + 1) f S (nI v) (g' 96) (g' 108) (g' 120) (g' 132) (g' 144) (by omega) (by omega) hS
      cases hfu : full (m.1 (43, 0, 0)) tg c s w G u v with
      | none =>
        have e : tr1 (full (m.1 (43, 0, 0)) tg c s w G) u v S = S := by unfold tr1; rw [hfu]
        rw [hfu] at eR'
        rw [show rI 0 none = -4 from rfl] at eR'
        rw [e]
        obtain ⟨vv', b1, b2, b3, b4, b5, e⟩ := ih' S hS
        refine ⟨vv', b1, b2, b3, b4, b5, ?_⟩
        rw [← e]
        simp (disch := omega) only [L_X11_mend_84.eq_2, i_ltl, z, z4, ↓reduceIte, inb_i, ck_i, nI_clamp, nam_i, est, hv', eR', bd_i, i_al]
      | some T =>
        have hT := rcN_b _ _ hfu
        rw [hfu] at eR'
        rw [show rI 0 (some T) = nI T from (by show nI (0 + T) = nI T; rw [Nat.zero_add])] at eR'
        have nT : ¬ nI T = -4 := by rw [i_nm4 (by omega)]; exact not_false
        by_cases z2 : T < S.1
        · have e : tr1 (full (m.1 (43, 0, 0)) tg c s w G) u v S = (T, some (u, v)) := by unfold tr1; rw [hfu]; simp only [z2, ↓reduceIte]
          rw [e]
          obtain ⟨vv', b1, b2, b3, b4, b5, e⟩ := ih' (T, some (u, v)) (by show T ≤ _; omega)
          refine ⟨vv', b1, b2, b3, b4, b5, ?_⟩
          rw [← e, mB_n (show (T, some (u, v)).1 ≤ 400 by show T ≤ 400; omega)]
          by_cases z3 : S.1 = 401
          · have eB : mB S.1 = -4 := if_pos z3
            simp (disch := omega) only [L_X11_mend_84.eq_2, i_ltl, z, z4, ↓reduceIte, inb_i, ck_i, nI_clamp, nam_i, est, hv', eR', bd_i, nT, eB, i_lm, nI_add, i_al, mP]
          · have eB : mB S.1 = nI S.1 := if_neg z3
            have nS : ¬ nI S.1 = -4 := by rw [i_nm4 (by omega)]; exact not_false
            have z5 : ¬ S.1 ≤ T := by omega
            simp (disch := omega) only [L_X11_mend_84.eq_2, i_ltl, z, z4, ↓reduceIte, inb_i, ck_i, nI_clamp, nam_i, est, hv', eR', bd_i, nT, eB, nS, i_le, z5, i_lm, nI_add, i_al, mP]
        · have e : tr1 (full (m.1 (43, 0, 0)) tg c s w G) u v S = S := by unfold tr1; rw [hfu]; simp only [z2, ↓reduceIte]
          rw [e]
          obtain ⟨vv', b1, b2, b3, b4, b5, e⟩ := ih' S hS
          refine ⟨vv', b1, b2, b3, b4, b5, ?_⟩
          rw [← e]
          have eB : mB S.1 = nI S.1 := if_neg (by omega)
          have nS : ¬ nI S.1 = -4 := by rw [i_nm4 (by omega)]; exact not_false
          have z5 : S.1 ≤ T := by omega
          simp (disch := omega) only [L_X11_mend_84.eq_2, i_ltl, z, z4, ↓reduceIte, inb_i, ck_i, nI_clamp, nam_i, est, hv', eR', bd_i, nT, eB, nS, i_le, z5, i_al]
theorem m_mdO (hR : RG (m.1 (43, 0, 0))) (hGc : Gc G) (hA : Ag m G) (hc : c < 96) (hs : 1 ≤ s) (hs2 : s ≤ 60) (hw : w < 4) (hk : G c = nI k0) (hk8 : k0 < 8) (hsh : ¬ (k0 = 5 ∨ k0 = 6)) {kd : Nat → Nat} (hkd : ∀ u, u < 96 → G u = nI (kd u) ∧ kd u < 8) {o : Option Nat} (ho : ∀ u, u < 96 → full (m.1 (43, 0, 0)) tg c s w G u (kd u) = o) (ho4 : o.getD 401 ≤ 401) {c5 : Int32} (kx : Int32 → Int32 → St → Option (Int32 × St)) : ∀ (k u fu : Nat) (S : Nat × Option (Nat × Nat)) (a1 a2 a3 a4 a5 : Int32), u + k = 96 → k < fu → S.1 ≤ o.getD 401 → ∃ b1 b2 b3 b4 b5, L_X11_mend_65 (nI c) (nI s) (nI w) tg c5 fu (mB S.1) (mP S.2) (nI u) (po m a1 a2 a3 a4 a5) kx = kx (mB (trO (full (m.1 (43, 0, 0)) tg c s w G) kd k u S).1) (mP (trO (full (m.1 (43, 0, 0)) tg c s w G) kd k u S).2) (po m b1 b2 b3 b4 b5) := by
  intro k
  induction k with
  | zero =>
    intro u fu S a1 a2 a3 a4 a5 hk' hf hS
    obtain ⟨f, rfl⟩ : ∃ f, fu = f + 1 := ⟨fu - 1, by omega⟩
    have z : 96 ≤ u := by omega
    refine ⟨a1, a2, a3, a4, a5, ?_⟩
    simp (disch := omega) only [L_X11_mend_65, i_lel, z, ↓reduceIte, trO]
  | succ k ih =>
    intro u fu S a1 a2 a3 a4 a5 hk' hf hS
    obtain ⟨f, rfl⟩ : ∃ f, fu = f + 1 := ⟨fu - 1, by omega⟩
    have z : ¬ 96 ≤ u := by omega
    have hu : u < 96 := by omega
    obtain ⟨hkd1, hkd2⟩ := hkd u hu
    have hmu : m.1 (41, 0, 0) u = nI (kd u) := by rw [hA.1 u hu, hkd1]
    have e41 : ∀ a1 a2 a3 a4 a5, (po m a1 a2 a3 a4 a5).1 (41, 0, 0) u = nI (kd u) := fun a1 a2 a3 a4 a5 => by rw [po_t (by omega), hmu]
    have eback : ∀ vv a1 a2 a3 a4 a5, uI (po (uI m (41, 0, 0) u vv) a1 a2 a3 a4 a5) (41, 0, 0) u (nI (kd u)) = po m a1 a2 a3 a4 a5 := by
      intro vv a1 a2 a3 a4 a5
      rw [pq_o (by omega), uI_uI, ← hmu, uI_id]
    rw [trO]
    by_cases h4 : kd u ≤ 4
    · rw [if_pos h4]
      obtain ⟨vv', d1, d2, d3, d4, d5, e⟩ := m_mdI (tg := tg) hR hGc hA hc hs hs2 hw hk hk8 hsh hu hkd1 h4 (ho u hu) ho4 (c5 := c5) (fun (y39 : Int32) (y40 : Int32) (σ38 : St) => ck (inb (nI u) 576) (nam (uI σ38 (41, 0, 0) ((nI u).toNatClampNeg) (nI (kd u))) fun σ42 => nam (nI u + (1 : Int32)) fun x43 => L_X11_mend_65 (nI c) (nI s) (nI w) tg c5 f y39 y40 x43 σ42 kx)) 5 0 FU S (nI (kd u)) a1 a2 a3 a4 a5 (by omega) (by unfold FU; omega) hS
      obtain ⟨b1, b2, b3, b4, b5, e2⟩ := ih (u + 1) f (trI (full (m.1 (43, 0, 0)) tg c s w G) u 5 0 S) d1 d2 d3 d4 d5 (by omega) (by omega) (Nat.le_trans (trI_le 5 0 S) hS)
      refine ⟨b1, b2, b3, b4, b5, ?_⟩
      have em : uI m (41, 0, 0) u (nI (kd u)) = m := by rw [← hmu, uI_id]
      rw [em] at e
      have e' : L_X11_mend_84 (nI c) (nI s) (nI w) tg c5 (nI u) (nI (kd u)) FU (mB S.1) (mP S.2) 0 (po m a1 a2 a3 a4 a5) (fun (y39 : Int32) (y40 : Int32) (σ38 : St) => ck (inb (nI u) 576) (nam (uI σ38 (41, 0, 0) ((nI u).toNatClampNeg) (nI (kd u))) fun σ42 => nam (nI u + (1 : Int32)) fun x43 => L_X11_mend_65 (nI c) (nI s) (nI w) tg c5 f y39 y40 x43 σ42 kx)) = L_X11_mend_65 (nI c) (nI s) (nI w) tg c5 f (mB (trI (full (m.1 (43, 0, 0)) tg c s w G) u 5 0 S).1) (mP (trI (full (m.1 (43, 0, 0)) tg c s w G) u 5 0 S).2) (nI (u + 1)) (po m d1 d2 d3 d4 d5) kx := by
        refine Eq.trans e ?_
        simp (disch := omega) only [inb_i, ck_i, nam_i, nI_clamp, eback, i_al]
      rw [← e2, ← e', L_X11_mend_65.eq_2]
      simp (disch := omega) only [i_lel, z, ↓reduceIte, inb_i, ck_i, nI_clamp, nam_i, e41]
    · rw [if_neg h4]
      have h4' : 4 < kd u := by omega
      have skip : ∀ v6 v7 σ kx, L_X11_mend_84 (nI c) (nI s) (nI w) tg c5 (nI u) (nI (kd u)) FU v6 v7 0 σ kx = kx v6 v7 σ := by
        intro v6 v7 σ kx
        have n : ¬ (4 : Int32) < 0 := by decide
        have p : (4 : Int32) < nI (kd u) := by rw [i_ltl (by decide) (by omega)]; exact h4'
        rw [show FU = 999 + 1 from rfl, L_X11_mend_84.eq_2, if_neg n, if_pos p]
      obtain ⟨b1, b2, b3, b4, b5, e2⟩ := ih (u + 1) f S a1 a2 a3 a4 a5 (by omega) (by omega) hS
      refine ⟨b1, b2, b3, b4, b5, ?_⟩
      have eb : uI (po m a1 a2 a3 a4 a5) (41, 0, 0) u (nI (kd u)) = po m a1 a2 a3 a4 a5 := by rw [pq_o (by omega), ← hmu, uI_id]
      rw [← e2, L_X11_mend_65.eq_2]
      simp (disch := omega) only [i_lel, z, ↓reduceIte, inb_i, ck_i, nI_clamp, nam_i, e41, skip, eb, i_al]
end MENDM
theorem px_R {q : Nat} {x : St} {g f : Nat → Int32} {a b c : Nat} (h7 : a ≠ 7) (h8 : a ≠ 8) (h10 : a ≠ 10) : uR (px q x g) (a, b, c) f = px q (uR x (a, b, c) f) g := by
  refine Prod.ext ?_ rfl
  funext d k
  obtain ⟨a', b', c'⟩ := d
  by_cases e : ((a', b', c') : Id3) = (a, b, c)
  · rw [e]
    have h1 : (uR (px q x g) (a, b, c) f).1 (a, b, c) = f := uR_self
    have h2 : (px q (uR x (a, b, c) f) g).1 (a, b, c) = f := by rw [px_t h7 h8 h10]; exact uR_self
    rw [h1, h2]
  · have h1 : (uR (px q x g) (a, b, c) f).1 (a', b', c') = (px q x g).1 (a', b', c') := uR_ne e
    rw [h1]
    cases hp : ps q (a', b', c') k with
    | none =>
      rw [px_n hp, px_n hp]
      have : (uR x (a, b, c) f).1 (a', b', c') = x.1 (a', b', c') := uR_ne e
      rw [this]
    | some j => rw [px_r hp, px_r hp]
