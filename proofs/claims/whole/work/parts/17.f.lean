/-! mend: all trials -/
def tr1 (full : Nat → Nat → Option Nat) (u v : Nat) (S : Nat × Option (Nat × Nat)) : Nat × Option (Nat × Nat) := match full u v with
  | some T => if T < S.1 then (T, some (u, v)) else S
  | none => S
def trI (full : Nat → Nat → Option Nat) (u : Nat) : Nat → Nat → Nat × Option (Nat × Nat) → Nat × Option (Nat × Nat)
  | 0, _, S => S
  | k + 1, v, S => trI full u k (v + 1) (tr1 full u v S)
def trO (full : Nat → Nat → Option Nat) (kd : Nat → Nat) : Nat → Nat → Nat × Option (Nat × Nat) → Nat × Option (Nat × Nat)
  | 0, _, S => S
  | k + 1, u, S => trO full kd k (u + 1) (if kd u ≤ 4 then trI full u 5 0 S else S)
def cP (o : Option (Nat × Nat)) : Int32 := match o with | none => -4 | some p => nI p.1
def cQ (o : Option (Nat × Nat)) : Int32 := match o with | none => -4 | some p => nI p.2
def mP (o : Option (Nat × Nat)) : Int32 := match o with | none => -4 | some p => nI (5 * p.1 + p.2)
def mB (B : Nat) : Int32 := if B = 401 then -4 else nI B
theorem tr1_le {full : Nat → Nat → Option Nat} {u v : Nat} {S : Nat × Option (Nat × Nat)} : (tr1 full u v S).1 ≤ S.1 := by
  unfold tr1
  split
  · split
    · rename_i h; exact Nat.le_of_lt h
    · exact Nat.le_refl _
  · exact Nat.le_refl _
theorem trI_le {full : Nat → Nat → Option Nat} {u : Nat} : ∀ (k v : Nat) (S : Nat × Option (Nat × Nat)), (trI full u k v S).1 ≤ S.1
  | 0, _, _ => Nat.le_refl _
  | k + 1, v, S => Nat.le_trans (trI_le k (v + 1) _) tr1_le
theorem tr1_no {full : Nat → Nat → Option Nat} {u v : Nat} {S : Nat × Option (Nat × Nat)} {o : Option Nat} (h : full u v = o) (hS : S.1 ≤ o.getD 401) : tr1 full u v S = S := by
  unfold tr1
  rw [h]
  cases o with
  | none => rfl
  | some T =>
    have hS : S.1 ≤ T := hS
    simp only []
    rw [if_neg (by omega)]
theorem trI_no {full : Nat → Nat → Option Nat} {u : Nat} {o : Option Nat} : ∀ (k v : Nat) (S : Nat × Option (Nat × Nat)), (∀ v', v ≤ v' → v' < v + k → full u v' = o) → S.1 ≤ o.getD 401 → trI full u k v S = S
  | 0, _, _, _, _ => rfl
  | k + 1, v, S, h, hS => by
    rw [trI, tr1_no (h v (by omega) (by omega)) hS]
    exact trI_no k (v + 1) S (fun v' h1 h2 => h v' (by omega) (by omega)) hS
def sOk (S : Nat × Option (Nat × Nat)) : Prop := S.2 = none ∨ ∃ u v, u < 96 ∧ v < 5 ∧ S.2 = some (u, v) ∧ S.1 ≤ 400
theorem tr1_ok {full : Nat → Nat → Option Nat} {u v : Nat} {S : Nat × Option (Nat × Nat)} (hu : u < 96) (hv : v < 5) (hf : ∀ T, full u v = some T → T < 401) (h : sOk S) : sOk (tr1 full u v S) := by
  unfold tr1
  split
  · rename_i T hT
    split
    · exact Or.inr ⟨u, v, hu, hv, rfl, by have := hf T hT; show T ≤ 400; omega⟩
    · exact h
  · exact h
theorem trI_ok {full : Nat → Nat → Option Nat} {u : Nat} (hu : u < 96) (hf : ∀ u v T, full u v = some T → T < 401) : ∀ (k v : Nat) (S : Nat × Option (Nat × Nat)), v + k ≤ 5 → sOk S → sOk (trI full u k v S)
  | 0, _, _, _, h => h
  | k + 1, v, S, hk, h => trI_ok hu hf k (v + 1) _ (by omega) (tr1_ok hu (by omega) (hf u v) h)
theorem trO_ok {full : Nat → Nat → Option Nat} {kd : Nat → Nat} (hf : ∀ u v T, full u v = some T → T < 401) : ∀ (k u : Nat) (S : Nat × Option (Nat × Nat)), u + k ≤ 96 → sOk S → sOk (trO full kd k u S)
  | 0, _, _, _, h => h
  | k + 1, u, S, hk, h => by
    rw [trO]
    refine trO_ok hf k (u + 1) _ (by omega) ?_
    split
    · exact trI_ok (by omega) hf 5 0 S (by omega) h
    · exact h
def MX (x0 : St) (V : Nat → Int32) (c s w : Int32) (S : Nat × Option (Nat × Nat)) (x : St) : Prop := KX x0 x ∧ x.1 (15, 0, 0) = V ∧ x.1 (13, 0, 0) 3 = c ∧ x.1 (13, 0, 0) 4 = s ∧ x.1 (13, 0, 0) 5 = w ∧ x.1 (13, 0, 0) 6 = nI S.1 ∧ x.1 (13, 0, 0) 7 = cP S.2 ∧ x.1 (13, 0, 0) 8 = cQ S.2
def full (R : Nat → Int32) (tg : Int32) (c s w : Nat) (G : Nat → Int32) (u v : Nat) : Option Nat := rcN R tg 401 (frG (nI c) (nI s) (nI w) (upd G u (nI v)))
theorem Gc_u {G : Nat → Int32} {u v : Nat} (h : Gc G) (hu : u < 96) (hv : v < 5) : Gc (upd G u (nI v)) := by
  refine ⟨fun c hc => ?_, ?_, ?_⟩
  · by_cases e : c = u
    · subst e; exact ⟨v, by omega, pk_us⟩
    · rw [pk_un e]; exact h.1 c hc
  · rw [pk_un (by omega)]; exact h.2.1
  · rw [pk_un (by omega)]; exact h.2.2
theorem open_u {G : Nat → Int32} {u v c k : Nat} (hv : v < 5) (hk : G c = nI k) (hk8 : k < 8) (hsh : ¬ (k = 5 ∨ k = 6)) : ∃ k', k' < 8 ∧ ¬ (k' = 5 ∨ k' = 6) ∧ upd G u (nI v) c = nI k' := by
  by_cases e : c = u
  · subst e; exact ⟨v, by omega, by omega, pk_us⟩
  · exact ⟨k, hk8, hsh, by rw [pk_un e, hk]⟩
section MEND
variable {x0 : St} {V G : Nat → Int32} {tg : Int32} {c s w k0 : Nat}
theorem x_mdI (hR : RG (x0.1 (4, 0, 0))) (hGc : Gc G) (hc : c < 96) (hs : 1 ≤ s) (hs2 : s ≤ 60) (hw : w < 4) (hk : G c = nI k0) (hk8 : k0 < 8) (hsh : ¬ (k0 = 5 ∨ k0 = 6)) {u : Nat} (hu : u < 96) {c5 : Int32} (kx : St → Option (Int32 × St)) : ∀ (k v fu : Nat) (S : Nat × Option (Nat × Nat)) (x : St) (g : Nat → Int32), v + k = 5 → k < fu → S.1 ≤ 401 → MX x0 V (nI c) (nI s) (nI w) S x → (∀ j, (j < 96 ∧ j ≠ u) ∨ j = 169 ∨ j = 170 → g j = G j) → ∃ x' g', L_X2_findMend_110 0 tg (nI u) c5 1 fu (nI v) (px 3 x g) kx = kx (px 3 x' g') ∧ MX x0 V (nI c) (nI s) (nI w) (trI (full (x0.1 (4, 0, 0)) tg c s w G) u k v S) x' ∧ (∀ j, (j < 96 ∧ j ≠ u) ∨ j = 169 ∨ j = 170 → g' j = G j) := by
  intro k
  induction k with
  | zero =>
    intro v fu S x g hk' hf hS hM hg
    obtain ⟨f, rfl⟩ : ∃ f, fu = f + 1 := ⟨fu - 1, by omega⟩
    have z : 4 < v := by omega
    refine ⟨x, g, ?_, hM, hg⟩
    simp (disch := omega) only [L_X2_findMend_110, ft10, i_ltl, z, ↓reduceIte]
  | succ k ih =>
    intro v fu S x g hk' hf hS hM hg
    obtain ⟨f, rfl⟩ : ∃ f, fu = f + 1 := ⟨fu - 1, by omega⟩
    have z : ¬ 4 < v := by omega
    obtain ⟨m1, m2, m3, m4, m5, m6, m7, m8⟩ := hM
    have r4 : x.1 (4, 0, 0) = x0.1 (4, 0, 0) := m1 _ (Or.inl (Or.inr (Or.inr (Or.inl rfl))))
    have hgu : ∀ j, j < 96 ∨ j = 169 ∨ j = 170 → upd g u (nI v) j = upd G u (nI v) j := by
      intro j hj
      by_cases e : j = u
      · subst e; rw [pk_us, pk_us]
      · rw [pk_un e, pk_un e]
        exact hg j (by omega)
    have hGcu : Gc (upd G u (nI v)) := Gc_u hGc hu (by omega)
    have hGcg : Gc (upd g u (nI v)) := ⟨fun c hc => by rw [hgu c (Or.inl hc)]; exact hGcu.1 c hc, by rw [hgu 169 (by omega)]; exact hGcu.2.1, by rw [hgu 170 (by omega)]; exact hGcu.2.2⟩
    obtain ⟨k', b1, b2, b3⟩ := open_u (u := u) (v := v) (by omega) hk hk8 hsh
    have hG1 := Gd_fr hGcu hc hs hs2 hw b3 b1 (fun q => b2 (Or.inl q)) (fun q => b2 (Or.inr q))
    have hG2 := Gd_fr hGcg hc hs hs2 hw (by rw [hgu c (Or.inl hc)]; exact b3) b1 (fun q => b2 (Or.inl q)) (fun q => b2 (Or.inr q))
    obtain ⟨g1, e1, e2⟩ := x_till (x := x) (K := S.1) (tg := tg) (by rw [r4]; exact hR) hS S.1 0 FU _ (x.1 (14, 0, 0)) (by omega) (by unfold FU; omega) hG2 ⟨c, hc, fr_d.1⟩
    rw [uR_id, r4] at e1
    have hcong : rcN (x0.1 (4, 0, 0)) tg 401 (frG (nI c) (nI s) (nI w) (upd g u (nI v))) = full (x0.1 (4, 0, 0)) tg c s w G u v := by
      have e43 : (uR (uR x0 (43, 0, 0) (x0.1 (4, 0, 0))) (41, 0, 0) (upd G u (nI v))).1 (43, 0, 0) = x0.1 (4, 0, 0) := by rw [rr_t (by omega), uR_self]
      have e41 : (uR (uR x0 (43, 0, 0) (x0.1 (4, 0, 0))) (41, 0, 0) (upd G u (nI v))).1 (41, 0, 0) = upd G u (nI v) := uR_self
      generalize uR (uR x0 (43, 0, 0) (x0.1 (4, 0, 0))) (41, 0, 0) (upd G u (nI v)) = mm at e43 e41
      have := rcN_cong (m := mm) (tg := tg) (by rw [e43]; exact hR) 401 _ _ hG1 hG2 ⟨fun c hc => by rw [e41, fr_lo (Or.inl hc)], by rw [e41, fr_lo (by omega)], by rw [e41, fr_lo (by omega)]⟩ ⟨fun c hc => by rw [e41, fr_lo (Or.inl hc), hgu c (Or.inl hc)], by rw [e41, fr_lo (by omega), hgu 169 (by omega)], by rw [e41, fr_lo (by omega), hgu 170 (by omega)]⟩ (by rw [fr_po, fr_po]) (by rw [fr_d.2.2.2.2.2, fr_d.2.2.2.2.2])
      rw [e43] at this
      exact this
    have hlim := rcN_lim (R := x0.1 (4, 0, 0)) (tg := tg) (e := 401 - S.1) S.1 (frG (nI c) (nI s) (nI w) (upd g u (nI v)))
    rw [show S.1 + (401 - S.1) = 401 by omega, hcong] at hlim
    have hgg : ∀ j, (j < 96 ∧ j ≠ u) ∨ j = 169 ∨ j = 170 → g1 j = G j := by
      intro j hj
      rw [e2 j (by omega), fr_lo (by omega), hgu j (by omega), pk_un (by omega)]
    have n14 : nX 14 0 := Or.inr (Or.inr (Or.inr (Or.inl ⟨by omega, by omega⟩)))
    have n13 : nX 13 0 := Or.inr (Or.inr (Or.inr (Or.inl ⟨by omega, by omega⟩)))
    have t13 : ∀ g, (px 3 x g).1 (13, 0, 0) = x.1 (13, 0, 0) := fun g => px_t (by omega) (by omega) (by omega)
    generalize mkT (x0.1 (4, 0, 0)) tg S.1 (frG (nI c) (nI s) (nI w) (upd g u (nI v))) (x.1 (14, 0, 0)) = mk at e1
    have step : L_X2_findMend_110 0 tg (nI u) c5 1 (f + 1) (nI v) (px 3 x g) kx = (if rI 0 (rcN (x0.1 (4, 0, 0)) tg S.1 (frG (nI c) (nI s) (nI w) (upd g u (nI v)))) = -4 then L_X2_findMend_110 0 tg (nI u) c5 1 f (nI (v + 1)) (px 3 (uR x (14, 0, 0) mk) g1) kx else L_X2_findMend_110 0 tg (nI u) c5 1 f (nI (v + 1)) (px 3 (uI (uI (uI (uR x (14, 0, 0) mk) (13, 0, 0) 6 (rI 0 (rcN (x0.1 (4, 0, 0)) tg S.1 (frG (nI c) (nI s) (nI w) (upd g u (nI v)))))) (13, 0, 0) 7 (nI u)) (13, 0, 0) 8 (nI v)) g1) kx) := by
      have un : ∀ (x : St) (k : Nat) (v : Int32) (g : Nat → Int32), uI (px 3 x g) (13, 0, 0) k v = px 3 (uI x (13, 0, 0) k v) g := fun x k v g => px_un (ps_t (by omega) (by omega) (by omega))
      rw [L_X2_findMend_110.eq_2]
      simp (disch := omega) only [ft10, i_ltl, z, ↓reduceIte, inb_i, ck_i, nam_i, nI_clamp, pu_c, x_clear, bd_i, t13, m3, m4, m5, m6, x_fresh, x_tillU, e1, un, i_al]
    have kx14 : KX x0 (uR x (14, 0, 0) mk) := KX_R n14 m1
    have M14 : MX x0 V (nI c) (nI s) (nI w) S (uR x (14, 0, 0) mk) := by
      refine ⟨kx14, ?_, ?_, ?_, ?_, ?_, ?_, ?_⟩ <;> rw [rr_t (by omega)] <;> assumption
    rw [step, trI]
    cases hfu : full (x0.1 (4, 0, 0)) tg c s w G u v with
    | none =>
      rw [hfu] at hlim
      have hlim : rcN (x0.1 (4, 0, 0)) tg S.1 (frG (nI c) (nI s) (nI w) (upd g u (nI v))) = none := hlim
      rw [hlim]
      have e : tr1 (full (x0.1 (4, 0, 0)) tg c s w G) u v S = S := by unfold tr1; rw [hfu]
      rw [if_pos (show rI 0 none = -4 from rfl), e]
      exact ih (v + 1) f S _ g1 (by omega) (by omega) hS M14 hgg
    | some T =>
      rw [hfu] at hlim
      by_cases z2 : T < S.1
      · simp only [z2, ↓reduceIte] at hlim
        have e : tr1 (full (x0.1 (4, 0, 0)) tg c s w G) u v S = (T, some (u, v)) := by unfold tr1; rw [hfu]; simp only [z2, ↓reduceIte]
        have n4 : ¬ rI 0 (some T) = -4 := by
          show ¬ nI (0 + T) = -4
          rw [i_nm4 (by omega)]; exact not_false
        have eT : rI 0 (some T) = nI T := by show nI (0 + T) = nI T; rw [Nat.zero_add]
        rw [hlim, if_neg n4, e, eT]
        refine ih (v + 1) f (T, some (u, v)) _ g1 (by omega) (by omega) (by show T ≤ 401; omega) ?_ hgg
        refine ⟨KX_u n13 (KX_u n13 (KX_u n13 kx14)), ?_, ?_, ?_, ?_, ?_, ?_, ?_⟩
        · simp (disch := omega) only [rd_t, rr_t]; exact m2
        · simp (disch := omega) only [rd_e, pk_un, pk_us, rr_t]; exact m3
        · simp (disch := omega) only [rd_e, pk_un, pk_us, rr_t]; exact m4
        · simp (disch := omega) only [rd_e, pk_un, pk_us, rr_t]; exact m5
        · simp (disch := omega) only [rd_e, pk_un, pk_us, rr_t]
        · simp (disch := omega) only [rd_e, pk_un, pk_us, rr_t, cP]
        · simp (disch := omega) only [rd_e, pk_un, pk_us, rr_t, cQ]
      · simp only [z2, ↓reduceIte] at hlim
        have e : tr1 (full (x0.1 (4, 0, 0)) tg c s w G) u v S = S := by unfold tr1; rw [hfu]; simp only [z2, ↓reduceIte]
        rw [hlim, if_pos (show rI 0 none = -4 from rfl), e]
        exact ih (v + 1) f S _ g1 (by omega) (by omega) hS M14 hgg
theorem x_mdO (hR : RG (x0.1 (4, 0, 0))) (hGc : Gc G) (hc : c < 96) (hs : 1 ≤ s) (hs2 : s ≤ 60) (hw : w < 4) (hk : G c = nI k0) (hk8 : k0 < 8) (hsh : ¬ (k0 = 5 ∨ k0 = 6)) {kd : Nat → Nat} (hkd : ∀ u, u < 96 → G u = nI (kd u) ∧ kd u < 8) {o : Option Nat} (ho : o.getD 401 ≤ 401) (hV : ∀ u, u < 96 → kd u ≤ 4 → V u = 0 → ∀ v, v < 5 → full (x0.1 (4, 0, 0)) tg c s w G u v = o) (kx : St → Option (Int32 × St)) : ∀ (k u fu : Nat) (S : Nat × Option (Nat × Nat)) (x : St) (g : Nat → Int32), u + k = 96 → k < fu → S.1 ≤ o.getD 401 → MX x0 V (nI c) (nI s) (nI w) S x → (∀ j, j < 96 ∨ j = 169 ∨ j = 170 → g j = G j) → ∃ x' g', L_X2_findMend_65 0 tg fu (nI u) (px 3 x g) kx = kx (px 3 x' g') ∧ MX x0 V (nI c) (nI s) (nI w) (trO (full (x0.1 (4, 0, 0)) tg c s w G) kd k u S) x' := by
  intro k
  induction k with
  | zero =>
    intro u fu S x g hk' hf hS hM hg
    obtain ⟨f, rfl⟩ : ∃ f, fu = f + 1 := ⟨fu - 1, by omega⟩
    have z : 96 ≤ u := by omega
    refine ⟨x, g, ?_, hM⟩
    simp (disch := omega) only [L_X2_findMend_65, i_lel, z, ↓reduceIte]
  | succ k ih =>
    intro u fu S x g hk' hf hS hM hg
    obtain ⟨f, rfl⟩ : ∃ f, fu = f + 1 := ⟨fu - 1, by omega⟩
    have z : ¬ 96 ≤ u := by omega
    have hu : u < 96 := by omega
    obtain ⟨hkd1, hkd2⟩ := hkd u hu
    have hgu : g u = nI (kd u) := by rw [hg u (Or.inl hu), hkd1]
    have hV15 : ∀ g, (px 3 x g).1 (15, 0, 0) u = V u := fun g => by rw [px_t (by omega) (by omega) (by omega), hM.2.1]
    have eid : upd g u (nI (kd u)) = g := by rw [← hgu, upd_id]
    rw [trO]
    have skip : ∀ c4 c5 σ kx, L_X2_findMend_110 0 tg c4 c5 0 FU 0 σ kx = kx σ := by
      intro c4 c5 σ kx
      rw [show FU = 999 + 1 from rfl, L_X2_findMend_110.eq_2, if_pos rfl]
    by_cases h0 : V u = 0
    · have eS : (if kd u ≤ 4 then trI (full (x0.1 (4, 0, 0)) tg c s w G) u 5 0 S else S) = S := by
        split
        · rename_i h4
          exact trI_no 5 0 S (fun v' _ h2 => hV u hu h4 h0 v' (by omega)) hS
        · rfl
      rw [eS]
      obtain ⟨x', g', a1, a2⟩ := ih (u + 1) f S x g (by omega) (by omega) hS hM hg
      refine ⟨x', g', ?_, a2⟩
      rw [← a1]
      simp (disch := omega) only [L_X2_findMend_65.eq_2, i_lel, z, ↓reduceIte, inb_i, ck_i, nI_clamp, nam_i, px_c, hgu, hV15, h0, skip, pu_c, eid, i_al]
    · by_cases h4 : kd u ≤ 4
      · rw [if_pos h4]
        have h4' : ¬ 4 < kd u := by omega
        have inner := x_mdI (V := V) (tg := tg) hR hGc hc hs hs2 hw hk hk8 hsh hu (c5 := nI (kd u)) (fun (σ39 : St) => ck (inb (nI u) 96) (nam (uI σ39 (8, 3, 0) ((nI u).toNatClampNeg) (nI (kd u))) fun σ41 => nam (nI u + (1 : Int32)) fun x42 => L_X2_findMend_65 0 tg f x42 σ41 kx)) 5 0 FU S x g (by omega) (by unfold FU; omega) (by omega) hM (fun j hj => hg j (by omega))
        obtain ⟨x1, g1, b1, b2, b3⟩ := inner
        obtain ⟨x', g', a1, a2⟩ := ih (u + 1) f (trI (full (x0.1 (4, 0, 0)) tg c s w G) u 5 0 S) x1 (upd g1 u (nI (kd u))) (by omega) (by omega) (Nat.le_trans (trI_le 5 0 S) hS) b2 (fun j hj => by
          by_cases e : j = u
          · subst e; rw [pk_us, hkd1]
          · rw [pk_un e]; exact b3 j (by omega))
        refine ⟨x', g', ?_, a2⟩
        rw [← a1]
        have b1' : L_X2_findMend_110 0 tg (nI u) (nI (kd u)) 1 FU 0 (px 3 x g) (fun (σ39 : St) => ck (inb (nI u) 96) (nam (uI σ39 (8, 3, 0) ((nI u).toNatClampNeg) (nI (kd u))) fun σ41 => nam (nI u + (1 : Int32)) fun x42 => L_X2_findMend_65 0 tg f x42 σ41 kx)) = L_X2_findMend_65 0 tg f (nI (u + 1)) (px 3 x1 (upd g1 u (nI (kd u)))) kx := by
          refine Eq.trans b1 ?_
          simp (disch := omega) only [inb_i, ck_i, nam_i, nI_clamp, pu_c, i_al]
        rw [← b1', L_X2_findMend_65.eq_2]
        simp (disch := omega) only [i_lel, z, ↓reduceIte, inb_i, ck_i, nI_clamp, nam_i, px_c, hgu, hV15, h0, i_ltl, h4']
      · rw [if_neg h4]
        have h4' : 4 < kd u := by omega
        obtain ⟨x', g', a1, a2⟩ := ih (u + 1) f S x g (by omega) (by omega) hS hM hg
        refine ⟨x', g', ?_, a2⟩
        rw [← a1]
        simp (disch := omega) only [L_X2_findMend_65.eq_2, i_lel, z, ↓reduceIte, inb_i, ck_i, nI_clamp, nam_i, px_c, hgu, hV15, h0, i_ltl, h4', skip, pu_c, eid, i_al]
end MEND
