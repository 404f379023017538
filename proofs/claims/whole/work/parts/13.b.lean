/-! reads and writes of stores; a scene of the class as one flat row, as the model has it -/
section RD
variable {σ : St} {a b c k : Nat} {v : Int32} {a' b' c' : Nat} {f : Nat → Int32}
theorem rd_t (h : a' ≠ a) : (uI σ (a, b, c) k v).1 (a', b', c') = σ.1 (a', b', c') := uI_ne (fun e => h (Prod.mk.inj e).1)
theorem rd_q (h : b' ≠ b) : (uI σ (a, b, c) k v).1 (a', b', c') = σ.1 (a', b', c') := uI_ne (fun e => h (Prod.mk.inj (Prod.mk.inj e).2).1)
theorem rd_j (h : c' ≠ c) : (uI σ (a, b, c) k v).1 (a', b', c') = σ.1 (a', b', c') := uI_ne (fun e => h (Prod.mk.inj (Prod.mk.inj e).2).2)
theorem rd_e : (uI σ (a, b, c) k v).1 (a, b, c) = upd (σ.1 (a, b, c)) k v := uI_self
theorem rr_t (h : a' ≠ a) : (uR σ (a, b, c) f).1 (a', b', c') = σ.1 (a', b', c') := uR_ne (fun e => h (Prod.mk.inj e).1)
theorem rr_q (h : b' ≠ b) : (uR σ (a, b, c) f).1 (a', b', c') = σ.1 (a', b', c') := uR_ne (fun e => h (Prod.mk.inj (Prod.mk.inj e).2).1)
theorem rr_e : (uR σ (a, b, c) f).1 (a, b, c) = f := uR_self
theorem rL_1 {d : Id3} {w : Int64} : (uL σ d k w).1 = σ.1 := rfl
theorem rRL_1 {d : Id3} {w : Nat → Int64} : (uRL σ d w).1 = σ.1 := rfl
theorem rI_2 {d : Id3} : (uI σ d k v).2 = σ.2 := rfl
theorem rR_2 {d : Id3} : (uR σ d f).2 = σ.2 := rfl
end RD
def sc7 (k : Nat) : Nat := if k = 4 then 168 else if k = 3 then 169 else if k = 6 then 170 else if k = 7 then 171 else if k = 8 then 172 else if k = 9 then 173 else if k = 10 then 174 else if k = 5 then 175 else 176
/-- where a slot of scene q lies in the flat row -/
def ps (q : Nat) (d : Id3) (k : Nat) : Option Nat :=
  if d.1 = 8 ∧ d.2.1 = q ∧ d.2.2 = 0 ∧ k < 96 then some k
  else if d.1 = 10 ∧ d.2.1 = q ∧ d.2.2 < 12 ∧ k < 6 then some (96 + 12 * k + d.2.2)
  else if d.1 = 7 ∧ d.2.1 = q ∧ d.2.2 = 0 ∧ 2 ≤ k ∧ k ≤ 10 then some (sc7 k) else none
theorem sc7_in {k : Nat} (h : 2 ≤ k) (h2 : k ≤ 10) : 168 ≤ sc7 k ∧ sc7 k ≤ 176 := by
  have : k = 2 ∨ k = 3 ∨ k = 4 ∨ k = 5 ∨ k = 6 ∨ k = 7 ∨ k = 8 ∨ k = 9 ∨ k = 10 := by omega
  rcases this with rfl | rfl | rfl | rfl | rfl | rfl | rfl | rfl | rfl <;> decide
theorem sc7_inj : ∀ k, k < 11 → ∀ k', k' < 11 → 2 ≤ k → 2 ≤ k' → sc7 k = sc7 k' → k' = k := by decide +kernel
theorem ps_inj {q : Nat} {d d' : Id3} {k k' j : Nat} (h : ps q d k = some j) (h' : ps q d' k' = some j) : d' = d ∧ k' = k := by
  obtain ⟨a, b, c⟩ := d
  obtain ⟨a', b', c'⟩ := d'
  simp only [ps] at h h'
  split at h
  · rename_i h1
    obtain ⟨rfl, rfl, rfl, h14⟩ := h1
    cases h
    split at h'
    · rename_i h2
      obtain ⟨rfl, rfl, rfl, h24⟩ := h2
      cases h'
      exact ⟨rfl, rfl⟩
    · split at h'
      · cases h'; omega
      · split at h'
        · rename_i h2
          have := sc7_in h2.2.2.2.1 h2.2.2.2.2
          cases h'; omega
        · cases h'
  · split at h
    · rename_i h1
      obtain ⟨rfl, rfl, h13, h14⟩ := h1
      cases h
      split at h'
      · cases h'; omega
      · split at h'
        · rename_i h2
          obtain ⟨rfl, rfl, h23, h24⟩ := h2
          have e := Option.some.inj h'
          have e1 : k' = k := by omega
          have e2 : c' = c := by omega
          subst e1; subst e2
          exact ⟨rfl, rfl⟩
        · split at h'
          · rename_i h2
            have := sc7_in h2.2.2.2.1 h2.2.2.2.2
            have e := Option.some.inj h'
            omega
          · cases h'
    · split at h
      · rename_i h1
        obtain ⟨rfl, rfl, rfl, h14, h15⟩ := h1
        have h3 := sc7_in h14 h15
        have e0 := Option.some.inj h
        split at h'
        · have e := Option.some.inj h'; omega
        · split at h'
          · have e := Option.some.inj h'; omega
          · split at h'
            · rename_i h2
              obtain ⟨rfl, rfl, rfl, h24, h25⟩ := h2
              have e := Option.some.inj h'
              exact ⟨rfl, sc7_inj k (by omega) k' (by omega) h14 h24 (by omega)⟩
            · cases h'
      · cases h
/-- a store with flat row g as its scene q -/
def px (q : Nat) (x : St) (g : Nat → Int32) : St := (fun d k => match ps q d k with | some j => g j | none => x.1 d k, x.2)
theorem px_r {q : Nat} {x : St} {g : Nat → Int32} {d : Id3} {k j : Nat} (h : ps q d k = some j) : (px q x g).1 d k = g j := by simp only [px, h]
theorem px_n {q : Nat} {x : St} {g : Nat → Int32} {d : Id3} {k : Nat} (h : ps q d k = none) : (px q x g).1 d k = x.1 d k := by simp only [px, h]
theorem px_u {q : Nat} {x : St} {g : Nat → Int32} {d : Id3} {k j : Nat} {v : Int32} (h : ps q d k = some j) : uI (px q x g) d k v = px q x (upd g j v) := by
  refine Prod.ext ?_ rfl
  funext d' k'
  simp only [uI, px]
  by_cases e : d' = d ∧ k' = k
  · obtain ⟨rfl, rfl⟩ := e
    simp only [h, and_self, if_true, upd]
  · rw [if_neg e]
    cases h' : ps q d' k' with
    | none => rfl
    | some j' =>
      show g j' = upd g j v j'
      rw [pk_un]
      intro e'
      subst e'
      exact e (ps_inj h h')
theorem px_un {q : Nat} {x : St} {g : Nat → Int32} {d : Id3} {k : Nat} {v : Int32} (h : ps q d k = none) : uI (px q x g) d k v = px q (uI x d k v) g := by
  refine Prod.ext ?_ rfl
  funext d' k'
  simp only [uI, px]
  by_cases e : d' = d ∧ k' = k
  · obtain ⟨rfl, rfl⟩ := e
    simp only [h, and_self, if_true]
  · rw [if_neg e]
    cases h' : ps q d' k' with
    | none => simp only [e, if_false]
    | some j' => rfl
theorem px_2 {q : Nat} {x : St} {g : Nat → Int32} : (px q x g).2 = x.2 := rfl
theorem px_px {q : Nat} {x : St} {g g' : Nat → Int32} : px q (px q x g) g' = px q x g' := by
  refine Prod.ext ?_ rfl
  funext d k
  simp only [px]
  cases h' : ps q d k <;> rfl
theorem ps_t {q a b c k : Nat} (h7 : a ≠ 7) (h8 : a ≠ 8) (h10 : a ≠ 10) : ps q (a, b, c) k = none := by simp [ps, h7, h8, h10]
theorem ps_q {q a b c k : Nat} (h : b ≠ q) : ps q (a, b, c) k = none := by simp [ps, h]
section PX
variable {q : Nat} {x : St} {g : Nat → Int32} {v : Int32} {a b c d k : Nat}
theorem px_t (h7 : a ≠ 7) (h8 : a ≠ 8) (h10 : a ≠ 10) : (px q x g).1 (a, b, c) = x.1 (a, b, c) := by funext k; exact px_n (ps_t h7 h8 h10)
theorem px_q (h : b ≠ q) : (px q x g).1 (a, b, c) = x.1 (a, b, c) := by funext k; exact px_n (ps_q h)
theorem pu_t (h7 : a ≠ 7) (h8 : a ≠ 8) (h10 : a ≠ 10) : uI (px q x g) (a, b, c) k v = px q (uI x (a, b, c) k v) g := px_un (ps_t h7 h8 h10)
theorem pu_q (h : b ≠ q) : uI (px q x g) (a, b, c) k v = px q (uI x (a, b, c) k v) g := px_un (ps_q h)
theorem ps_c (h : c < 96) : ps q (8, q, 0) c = some c := by simp [ps, h]
theorem px_c (h : c < 96) : (px q x g).1 (8, q, 0) c = g c := px_r (ps_c h)
theorem pu_c (h : c < 96) : uI (px q x g) (8, q, 0) c v = px q x (upd g c v) := px_u (ps_c h)
theorem ps_d0 (h : d < 12) : ps q (10, q, d) 0 = some (96 + d) := by simp [ps, h]
theorem px_d0 (h : d < 12) : (px q x g).1 (10, q, d) 0 = g (96 + d) := px_r (ps_d0 h)
theorem pu_d0 (h : d < 12) : uI (px q x g) (10, q, d) 0 v = px q x (upd g (96 + d) v) := px_u (ps_d0 h)
theorem ps_d1 (h : d < 12) : ps q (10, q, d) 1 = some (108 + d) := by simp [ps, h]
theorem px_d1 (h : d < 12) : (px q x g).1 (10, q, d) 1 = g (108 + d) := px_r (ps_d1 h)
theorem pu_d1 (h : d < 12) : uI (px q x g) (10, q, d) 1 v = px q x (upd g (108 + d) v) := px_u (ps_d1 h)
theorem ps_d2 (h : d < 12) : ps q (10, q, d) 2 = some (120 + d) := by simp [ps, h]
theorem px_d2 (h : d < 12) : (px q x g).1 (10, q, d) 2 = g (120 + d) := px_r (ps_d2 h)
theorem pu_d2 (h : d < 12) : uI (px q x g) (10, q, d) 2 v = px q x (upd g (120 + d) v) := px_u (ps_d2 h)
theorem ps_d3 (h : d < 12) : ps q (10, q, d) 3 = some (132 + d) := by simp [ps, h]
theorem px_d3 (h : d < 12) : (px q x g).1 (10, q, d) 3 = g (132 + d) := px_r (ps_d3 h)
theorem pu_d3 (h : d < 12) : uI (px q x g) (10, q, d) 3 v = px q x (upd g (132 + d) v) := px_u (ps_d3 h)
theorem ps_d4 (h : d < 12) : ps q (10, q, d) 4 = some (144 + d) := by simp [ps, h]
theorem px_d4 (h : d < 12) : (px q x g).1 (10, q, d) 4 = g (144 + d) := px_r (ps_d4 h)
theorem pu_d4 (h : d < 12) : uI (px q x g) (10, q, d) 4 v = px q x (upd g (144 + d) v) := px_u (ps_d4 h)
theorem ps_d5 (h : d < 12) : ps q (10, q, d) 5 = some (156 + d) := by simp [ps, h]
theorem px_d5 (h : d < 12) : (px q x g).1 (10, q, d) 5 = g (156 + d) := px_r (ps_d5 h)
theorem pu_d5 (h : d < 12) : uI (px q x g) (10, q, d) 5 v = px q x (upd g (156 + d) v) := px_u (ps_d5 h)
theorem ps_s4 : ps q (7, q, 0) 4 = some 168 := by simp [ps, sc7]
theorem px_s4 : (px q x g).1 (7, q, 0) 4 = g 168 := px_r ps_s4
theorem pu_s4 : uI (px q x g) (7, q, 0) 4 v = px q x (upd g 168 v) := px_u ps_s4
theorem ps_s3 : ps q (7, q, 0) 3 = some 169 := by simp [ps, sc7]
theorem px_s3 : (px q x g).1 (7, q, 0) 3 = g 169 := px_r ps_s3
theorem pu_s3 : uI (px q x g) (7, q, 0) 3 v = px q x (upd g 169 v) := px_u ps_s3
theorem ps_s6 : ps q (7, q, 0) 6 = some 170 := by simp [ps, sc7]
theorem px_s6 : (px q x g).1 (7, q, 0) 6 = g 170 := px_r ps_s6
theorem pu_s6 : uI (px q x g) (7, q, 0) 6 v = px q x (upd g 170 v) := px_u ps_s6
theorem ps_s7 : ps q (7, q, 0) 7 = some 171 := by simp [ps, sc7]
theorem px_s7 : (px q x g).1 (7, q, 0) 7 = g 171 := px_r ps_s7
theorem pu_s7 : uI (px q x g) (7, q, 0) 7 v = px q x (upd g 171 v) := px_u ps_s7
theorem ps_s8 : ps q (7, q, 0) 8 = some 172 := by simp [ps, sc7]
theorem px_s8 : (px q x g).1 (7, q, 0) 8 = g 172 := px_r ps_s8
theorem pu_s8 : uI (px q x g) (7, q, 0) 8 v = px q x (upd g 172 v) := px_u ps_s8
theorem ps_s9 : ps q (7, q, 0) 9 = some 173 := by simp [ps, sc7]
theorem px_s9 : (px q x g).1 (7, q, 0) 9 = g 173 := px_r ps_s9
theorem pu_s9 : uI (px q x g) (7, q, 0) 9 v = px q x (upd g 173 v) := px_u ps_s9
theorem ps_s10 : ps q (7, q, 0) 10 = some 174 := by simp [ps, sc7]
theorem px_s10 : (px q x g).1 (7, q, 0) 10 = g 174 := px_r ps_s10
theorem pu_s10 : uI (px q x g) (7, q, 0) 10 v = px q x (upd g 174 v) := px_u ps_s10
theorem ps_s5 : ps q (7, q, 0) 5 = some 175 := by simp [ps, sc7]
theorem px_s5 : (px q x g).1 (7, q, 0) 5 = g 175 := px_r ps_s5
theorem pu_s5 : uI (px q x g) (7, q, 0) 5 v = px q x (upd g 175 v) := px_u ps_s5
theorem ps_s2 : ps q (7, q, 0) 2 = some 176 := by simp [ps, sc7]
theorem px_s2 : (px q x g).1 (7, q, 0) 2 = g 176 := px_r ps_s2
theorem pu_s2 : uI (px q x g) (7, q, 0) 2 v = px q x (upd g 176 v) := px_u ps_s2
end PX
/-- scene q of a store, flat -/
def fx (q : Nat) (x : St) (j : Nat) : Int32 := if j < 96 then x.1 (8, q, 0) j else if j < 168 then x.1 (10, q, (j - 96) % 12) ((j - 96) / 12) else
  x.1 (7, q, 0) (if j = 168 then 4 else if j = 169 then 3 else if j = 170 then 6 else if j = 171 then 7 else if j = 172 then 8 else if j = 173 then 9 else if j = 174 then 10 else if j = 175 then 5 else 2)
theorem px_fx (q : Nat) (x : St) : px q x (fx q x) = x := by
  refine Prod.ext ?_ rfl
  funext d k
  obtain ⟨a, b, c⟩ := d
  simp only [px]
  cases h : ps q (a, b, c) k with
  | none => rfl
  | some j =>
    show fx q x j = x.1 (a, b, c) k
    simp only [ps] at h
    split at h
    · rename_i h1
      obtain ⟨rfl, rfl, rfl, h14⟩ := h1
      cases h
      simp only [fx, h14, if_true]
    · split at h
      · rename_i h1
        obtain ⟨rfl, rfl, h13, h14⟩ := h1
        cases h
        rw [fx, if_neg (by omega), if_pos (by omega)]
        have e1 : (96 + 12 * k + c - 96) % 12 = c := by omega
        have e2 : (96 + 12 * k + c - 96) / 12 = k := by omega
        rw [e1, e2]
      · split at h
        · rename_i h1
          obtain ⟨rfl, rfl, rfl, h14, h15⟩ := h1
          cases h
          have : k = 2 ∨ k = 3 ∨ k = 4 ∨ k = 5 ∨ k = 6 ∨ k = 7 ∨ k = 8 ∨ k = 9 ∨ k = 10 := by omega
          rcases this with rfl | rfl | rfl | rfl | rfl | rfl | rfl | rfl | rfl <;> rfl
        · cases h
/-- the model's store with row g as its state -/
def pm (m : St) (g : Nat → Int32) : St := uR m (41, 0, 0) g
section PM
variable {m : St} {g : Nat → Int32} {v : Int32} {a b c d k : Nat}
theorem pm_r : (pm m g).1 (41, 0, 0) = g := uR_self
theorem pm_t (h : a ≠ 41) : (pm m g).1 (a, b, c) = m.1 (a, b, c) := rr_t h
theorem pm_2 : (pm m g).2 = m.2 := rfl
theorem pm_u : uI (pm m g) (41, 0, 0) k v = pm m (upd g k v) := by
  refine Prod.ext ?_ rfl
  funext d' k'
  simp only [uI, pm, uR, upd]
  by_cases e : d' = (41, 0, 0)
  · subst e
    by_cases e2 : k' = k <;> simp [e2]
  · simp [e]
theorem pm_o (h : a ≠ 41) : uI (pm m g) (a, b, c) k v = pm (uI m (a, b, c) k v) g := by
  refine Prod.ext ?_ rfl
  funext d' k'
  simp only [uI, pm, uR]
  by_cases e : d' = (41, 0, 0)
  · subst e
    have : ¬ ((41, 0, 0) : Id3) = (a, b, c) := fun e => h (Prod.mk.inj e).1.symm
    simp [this]
  · simp [e]
theorem pm_self : pm m (m.1 (41, 0, 0)) = m := by
  refine Prod.ext ?_ rfl
  funext d' k'
  simp only [pm, uR]
  by_cases e : d' = (41, 0, 0)
  · subst e; simp
  · simp [e]
theorem pm_pm {g' : Nat → Int32} : pm (pm m g) g' = pm m g' := by
  refine Prod.ext ?_ rfl
  funext d' k'
  simp only [pm, uR]
  by_cases e : d' = (41, 0, 0)
  · subst e; simp
  · simp [e]
end PM
theorem upd_id {f : Nat → Int32} {k : Nat} : upd f k (f k) = f := by
  funext j
  by_cases e : j = k
  · subst e; exact pk_us
  · exact pk_un e
/-! what a drop does, on the flat row -/
def lessI (a b : Int32) : Int32 := if b ≤ a then b else a
def endD (d : Nat) (how : Int32) (g : Nat → Int32) : Nat → Int32 := upd (upd g (132 + d) how) (144 + d) (g 168)
def lose (d : Nat) (n : Int32) (g : Nat → Int32) : Nat → Int32 :=
  if g (108 + d) - n = 0 then endD d 1 (upd (upd g (108 + d) (g (108 + d) - n)) 171 (g 171 + n)) else upd (upd g (108 + d) (g (108 + d) - n)) 171 (g 171 + n)
theorem m_ends {m : St} {g : Nat → Int32} {d : Nat} {h : Int32} (hd : d < 12) : F_X11_ends (nI d) h (pm m g) = some ((), pm m (endD d h g)) := by
  simp (disch := omega) only [F_X11_ends, i_la, inb_i, inb_l, ck_i, nam_i, bd_i, nI_clamp, pm_r, pm_u, pk_us, pk_un, endD]
theorem m_loses {m : St} {g : Nat → Int32} {d : Nat} {n : Int32} (hd : d < 12) : F_X11_loses (nI d) n (pm m g) = some ((), pm m (lose d n g)) := by
  by_cases h : g (108 + d) - n = 0 <;> simp (disch := omega) only [F_X11_loses, m_ends, i_la, inb_i, inb_l, ck_i, nam_i, bd_i, nI_clamp, pm_r, pm_u, pk_us, pk_un, lose, h, ↓reduceIte]
theorem x_leave {x : St} {g : Nat → Int32} {d : Nat} {h : Int32} (q : Nat) (hd : d < 12) : F_X6_leave q q d h (px q x g) = some ((), px q x (endD d h g)) := by
  simp (disch := omega) only [F_X6_leave, nam_i, pu_d3, pu_d4, px_s4, pk_un, endD]
theorem x_lose {x : St} {g : Nat → Int32} {d : Nat} {n : Int32} (q : Nat) (hd : d < 12) : F_X6_loseSteam q q d n (px q x g) = some ((), px q x (lose d (if g (108 + d) < n then g (108 + d) else n) g)) := by
  by_cases h : g (108 + d) - (if g (108 + d) < n then g (108 + d) else n) = 0 <;> simp (disch := omega) only [F_X6_loseSteam, nam_i, bd_i, px_d1, pu_d1, pu_s7, px_s7, x_leave, pk_un, pk_us, lose, h, ↓reduceIte]
theorem less_min (s n : Int32) : (if s < n then s else n) = lessI s n := by
  unfold lessI
  by_cases h : n ≤ s
  · rw [if_pos h, if_neg (by rw [Int32.lt_iff_toInt_lt]; rw [Int32.le_iff_toInt_le] at h; omega)]
  · rw [if_neg h, if_pos (by rw [Int32.lt_iff_toInt_lt]; rw [Int32.le_iff_toInt_le] at h; omega)]
