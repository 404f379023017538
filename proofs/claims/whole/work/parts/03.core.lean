/-! ids, values, stores: the objects stand still once they are made, each has an id (tag, q, i); a store says what their numbers are -/
abbrev Id3 : Type := Nat × Nat × Nat
abbrev VV : Type := Int32 ⊕ (Int64 ⊕ (Id3 ⊕ Value))
abbrev St : Type := (Id3 → Nat → Int32) × (Id3 → Nat → Int64)
abbrev vI (x : Int32) : VV := Sum.inl x
abbrev vL (x : Int64) : VV := Sum.inr (Sum.inl x)
abbrev vR (d : Id3) : VV := Sum.inr (Sum.inr (Sum.inl d))
/-- a value that is only carried -/
abbrev vO (v : Value) : VV := Sum.inr (Sum.inr (Sum.inr v))
def tv (ad : Id3 → Nat) : VV → Value
  | .inl x => .int x
  | .inr (.inl y) => .long y
  | .inr (.inr (.inl d)) => .ref (ad d)
  | .inr (.inr (.inr v)) => v
def tp (ad : Id3 → Nat) (q : Nat × VV) : Nat × Value := (q.1, tv ad q.2)
def c2 : VV → Bool
  | .inr (.inl _) => true
  | .inr (.inr (.inr v)) => v.category == 2
  | _ => false
theorem c2_tv (ad : Id3 → Nat) (v : VV) : ((tv ad v).category == 2) = c2 v := by rcases v with x | y | d | v <;> rfl
def ds1 (i : Nat) (v : VV) (ls : List (Nat × VV)) : List (Nat × VV) := (i, v) :: ls.filter (fun q => !(q.1 == i) && !(q.1 + 1 == i && c2 q.2))
def ds2 (i : Nat) (v : VV) (ls : List (Nat × VV)) : List (Nat × VV) := (i, v) :: ls.filter (fun q => !(q.1 == i) && (!(q.1 == i + 1) && !(q.1 + 1 == i && c2 q.2)))
theorem ds1_map (ad : Id3 → Nat) (i : Nat) (v : VV) (ls : List (Nat × VV)) : (i, tv ad v) :: (ls.map (tp ad)).filter (fun q => !(q.1 == i) && !(q.1 + 1 == i && q.2.category == 2)) = (ds1 i v ls).map (tp ad) := by
  rw [ds1, List.map_cons, List.filter_map]
  congr 2
  apply List.filter_congr
  intro q _
  simp only [Function.comp, tp, c2_tv]
theorem ds2_map (ad : Id3 → Nat) (i : Nat) (v : VV) (ls : List (Nat × VV)) : (i, tv ad v) :: (ls.map (tp ad)).filter (fun q => !(q.1 == i) && (!(q.1 == i + 1) && !(q.1 + 1 == i && q.2.category == 2))) = (ds2 i v ls).map (tp ad) := by
  rw [ds2, List.map_cons, List.filter_map]
  congr 2
  apply List.filter_congr
  intro q _
  simp only [Function.comp, tp, c2_tv]
/-- by tag: (0, number of the class, its fields); (1, length, place of the array's type) int; 2 byte; 3 boolean; 4 long; 5 references -/
def dk (t : Nat) : Nat × Nat × Nat := match t with
  | 0 => (0, 10, 12)
  | 1 => (2, 320, 1)
  | 2 => (0, 8, 12)
  | 3 => (0, 5, 1)
  | 4 => (1, 9, 0)
  | 5 => (1, 96, 0)
  | 6 => (3, 9, 2)
  | 7 => (0, 6, 11)
  | 8 => (1, 96, 0)
  | 9 => (5, 12, 4)
  | 10 => (0, 0, 6)
  | 11 => (5, 2, 5)
  | 12 => (0, 1, 2)
  | 13 => (0, 2, 9)
  | 14 => (1, 96, 0)
  | 15 => (1, 96, 0)
  | 16 => (0, 3, 4)
  | 17 => (1, 384, 0)
  | 18 => (0, 4, 2)
  | 19 => (4, 96, 3)
  | 20 => (0, 9, 5)
  | 21 => (1, 12, 0)
  | 22 => (1, 12, 0)
  | 23 => (1, 12, 0)
  | 24 => (3, 12, 2)
  | 25 => (5, 4, 6)
  | 26 => (0, 7, 3)
  | 27 => (1, 40, 0)
  | 40 => (0, 11, 29)
  | 41 => (1, 576, 0)
  | 42 => (3, 2, 2)
  | 43 => (1, 9, 0)
  | 44 => (1, 9, 0)
  | 45 => (3, 9, 2)
  | 46 => (1, 96, 0)
  | 47 => (1, 320, 0)
  | 48 => (1, 384, 0)
  | 49 => (4, 96, 3)
  | 50 => (4, 96, 3)
  | 51 => (1, 48, 0)
  | 52 => (1, 4, 0)
  | 53 => (1, 4, 0)
  | 54 => (1, 160, 0)
  | _ => (9, 0, 0)
/-- whether field k of a tag is a reference -/
def rk (t k : Nat) : Bool := match t with
  | 0 => k == 0 || k == 3 || k == 4 || k == 5 || k == 6 || k == 7 || k == 8 || k == 9 || k == 10
  | 2 => k == 0 || k == 1 || k == 2 || k == 3
  | 3 => k == 0
  | 7 => k == 0 || k == 1
  | 12 => k == 0
  | 13 => k == 0 || k == 1 || k == 2
  | 16 => k == 0 || k == 1
  | 18 => k == 0 || k == 1
  | 20 => k == 0 || k == 1 || k == 2 || k == 3
  | 26 => k == 0
  | 40 => k == 0 || k == 1 || k == 2 || k == 3 || k == 4 || k == 6 || k == 7 || k == 20 || k == 21 || k == 22 || k == 24 || k == 25 || k == 26 || k == 27
  | _ => false
/-- whom a reference field holds -/
def rf (d : Id3) (k : Nat) : Id3 := match d.1 with
  | 0 => (match k with
    | 0 => (2, 0, 0)
    | 3 => (3, 0, 0)
    | 4 => (7, 0, 0)
    | 5 => (11, 0, 0)
    | 6 => (13, 0, 0)
    | 7 => (16, 0, 0)
    | 8 => (18, 0, 0)
    | 9 => (20, 0, 0)
    | _ => (25, 0, 0))
  | 2 => (match k with
    | 0 => (1, 0, 0)
    | 1 => (3, 1, 0)
    | 2 => (5, 0, 0)
    | _ => (6, 0, 0))
  | 3 => (match k with
    | _ => (4, d.2.1, 0))
  | 7 => (match k with
    | 0 => (8, d.2.1, 0)
    | _ => (9, d.2.1, 0))
  | 12 => (match k with
    | _ => (7, d.2.1 + 1, 0))
  | 13 => (match k with
    | 0 => (7, 3, 0)
    | 1 => (14, 0, 0)
    | _ => (15, 0, 0))
  | 16 => (match k with
    | 0 => (10, 4, 0)
    | _ => (17, 0, 0))
  | 18 => (match k with
    | 0 => (19, 0, 0)
    | _ => (19, 1, 0))
  | 20 => (match k with
    | 0 => (21, 0, 0)
    | 1 => (22, 0, 0)
    | 2 => (23, 0, 0)
    | _ => (24, 0, 0))
  | 26 => (match k with
    | _ => (27, d.2.1, 0))
  | 40 => (match k with
    | 0 => (41, 0, 0)
    | 1 => (42, 0, 0)
    | 2 => (43, 0, 0)
    | 3 => (44, 0, 0)
    | 4 => (45, 0, 0)
    | 6 => (46, 0, 0)
    | 7 => (47, 0, 0)
    | 20 => (48, 0, 0)
    | 21 => (49, 0, 0)
    | 22 => (50, 0, 0)
    | 24 => (51, 0, 0)
    | 25 => (52, 0, 0)
    | 26 => (53, 0, 0)
    | _ => (54, 0, 0))
  | _ => d
/-- whom a row of references holds -/
def el (d : Id3) (j : Nat) : Id3 := match d.1 with
  | 9 => (10, d.2.1, j)
  | 11 => (12, j, 0)
  | 25 => (26, j, 0)
  | _ => d
def ids : List Id3 := [(0, 0, 0), (1, 0, 0), (2, 0, 0), (3, 0, 0), (3, 1, 0), (4, 0, 0), (4, 1, 0), (5, 0, 0), (6, 0, 0), (7, 0, 0), (8, 0, 0), (9, 0, 0), (10, 0, 0), (10, 0, 1), (10, 0, 2), (10, 0, 3), (10, 0, 4), (10, 0, 5), (10, 0, 6), (10, 0, 7), (10, 0, 8), (10, 0, 9), (10, 0, 10), (10, 0, 11), (7, 1, 0), (8, 1, 0), (9, 1, 0), (10, 1, 0), (10, 1, 1), (10, 1, 2), (10, 1, 3), (10, 1, 4), (10, 1, 5), (10, 1, 6), (10, 1, 7), (10, 1, 8), (10, 1, 9), (10, 1, 10), (10, 1, 11), (7, 2, 0), (8, 2, 0), (9, 2, 0), (10, 2, 0), (10, 2, 1), (10, 2, 2), (10, 2, 3), (10, 2, 4), (10, 2, 5), (10, 2, 6), (10, 2, 7), (10, 2, 8), (10, 2, 9), (10, 2, 10), (10, 2, 11), (7, 3, 0), (8, 3, 0), (9, 3, 0), (10, 3, 0), (10, 3, 1), (10, 3, 2), (10, 3, 3), (10, 3, 4), (10, 3, 5), (10, 3, 6), (10, 3, 7), (10, 3, 8), (10, 3, 9), (10, 3, 10), (10, 3, 11), (10, 4, 0), (11, 0, 0), (12, 0, 0), (12, 1, 0), (13, 0, 0), (14, 0, 0), (15, 0, 0), (16, 0, 0), (17, 0, 0), (18, 0, 0), (19, 0, 0), (19, 1, 0), (20, 0, 0), (21, 0, 0), (22, 0, 0), (23, 0, 0), (24, 0, 0), (25, 0, 0), (26, 0, 0), (27, 0, 0), (26, 1, 0), (27, 1, 0), (26, 2, 0), (27, 2, 0), (26, 3, 0), (27, 3, 0), (40, 0, 0), (41, 0, 0), (42, 0, 0), (43, 0, 0), (44, 0, 0), (45, 0, 0), (46, 0, 0), (47, 0, 0), (48, 0, 0), (49, 0, 0), (50, 0, 0), (51, 0, 0), (52, 0, 0), (53, 0, 0), (54, 0, 0)]
theorem ids_nd : ids.Nodup := by decide +kernel
theorem ids_rf0 : ∀ d ∈ ids, (dk d.1).1 = 0 → ∀ k, k < (dk d.1).2.2 → (rk d.1 k = false ∨ rf d k ∈ ids) := by decide +kernel
theorem ids_rf (d : Id3) (h : d ∈ ids) (k : Nat) (hk : k < (dk d.1).2.2) (h0 : (dk d.1).1 = 0) (hr : rk d.1 k = true) : rf d k ∈ ids := by
  rcases ids_rf0 d h h0 k hk with q | q
  · rw [hr] at q; cases q
  · exact q
theorem ids_el : ∀ d ∈ ids, (dk d.1).1 = 5 → ∀ j, j < (dk d.1).2.1 → el d j ∈ ids := by decide +kernel
theorem dk_lt {t z n b : Nat} (h : dk t = (z, n, b)) (hz : z ≠ 9) : t < 100 := by
  rcases Nat.lt_or_ge t 100 with q | q
  · exact q
  · exfalso
    apply hz
    obtain ⟨u, rfl⟩ : ∃ u, t = u + 100 := ⟨t - 100, by omega⟩
    have e : dk (u + 100) = (9, 0, 0) := rfl
    rw [e] at h
    exact ((Prod.mk.injEq _ _ _ _).mp h).1.symm
/-- addresses, classes' numbers and slots, array classes, the script's length and ints -/
abbrev Gx : Type := (Id3 → Nat) × va_G × (Nat → ClassId) × Nat × (Nat → Int32) × Value
def tyl (G : Gx) : List (ClassId × FieldType) := [(G.2.2.1 0, .int), (G.2.2.1 1, .byte), (G.2.2.1 2, .boolean), (G.2.2.1 3, .long), (G.2.2.1 4, .object "DropsDance$Drop"), (G.2.2.1 5, .object "DropsDance$Image"), (G.2.2.1 6, .object "DropsDance$Sheet")]
def fv (ad : Id3 → Nat) (σ : St) (d : Id3) (k : Nat) : Value := if rk d.1 k = true then .ref (ad (rf d k)) else .int (σ.1 d k)
def en (G : Gx) (σ : St) (d : Id3) : va_E := match dk d.1 with
  | (0, ci, n) => .inr (ci, (List.range n).map (fv G.1 σ d))
  | (4, n, b) => .inl (G.2.2.1 b, n, .inr (.inl (σ.2 d)))
  | (5, n, b) => .inl (G.2.2.1 b, n, .inr (.inr (.inr (.inr (fun j => some (G.1 (el d j)))))))
  | (_, n, b) => .inl (G.2.2.1 b, n, .inl (σ.1 d))
def wsO (G : Gx) (σ : St) : va_W := ids.map (fun d => (G.1 d, en G σ d))
def AG (G : Gx) : Nat → Prop := fun q => ∃ d ∈ ids, q = G.1 d
def uI (σ : St) (d : Id3) (k : Nat) (v : Int32) : St := (fun d' k' => if d' = d ∧ k' = k then v else σ.1 d' k', σ.2)
def uL (σ : St) (d : Id3) (k : Nat) (v : Int64) : St := (σ.1, fun d' k' => if d' = d ∧ k' = k then v else σ.2 d' k')
/-- a whole row anew -/
def uR (σ : St) (d : Id3) (f : Nat → Int32) : St := (fun d' k' => if d' = d then f k' else σ.1 d' k', σ.2)
def uRL (σ : St) (d : Id3) (f : Nat → Int64) : St := (σ.1, fun d' k' => if d' = d then f k' else σ.2 d' k')
theorem ws_at {G : Gx} {d : Id3} (h : d ∈ ids) (σ : St) : ∃ k : Nat, ids[k]? = some d ∧ (wsO G σ)[k]? = some (G.1 d, en G σ d) := by
  obtain ⟨k, hk⟩ := List.getElem?_of_mem h
  exact ⟨k, hk, by rw [wsO, List.getElem?_map, hk]; rfl⟩
theorem ws_set {G : Gx} {d : Id3} {k : Nat} (hk : ids[k]? = some d) {σ σ' : St} (h : ∀ d', d' ≠ d → en G σ' d' = en G σ d') {e : va_E} (he : en G σ' d = e) : (wsO G σ).set k (G.1 d, e) = wsO G σ' := by
  subst he
  apply List.ext_getElem?
  intro j
  rw [wsO, wsO, List.getElem?_map]
  by_cases hj : j = k
  · subst hj
    have hl : j < ids.length := (List.getElem?_eq_some_iff.mp hk).1
    rw [List.getElem?_set_self (by rw [List.length_map]; exact hl), hk]
    rfl
  · rw [List.getElem?_set_ne (Ne.symm hj), List.getElem?_map]
    cases hd : ids[j]? with
    | none => rfl
    | some d' =>
      have hne : d' ≠ d := by
        intro q
        subst q
        have l1 := (List.getElem?_eq_some_iff.mp hd)
        have l2 := (List.getElem?_eq_some_iff.mp hk)
        exact hj ((List.getElem_inj ids_nd).mp (l1.2.trans l2.2.symm))
      rw [Option.map_some, Option.map_some, h d' hne]
theorem en_I {G : Gx} {σ : St} {d : Id3} {n b : Nat} {z : Nat} (h : dk d.1 = (z, n, b)) (h0 : z = 1 ∨ z = 2 ∨ z = 3) : en G σ d = .inl (G.2.2.1 b, n, .inl (σ.1 d)) := by
  rcases h0 with rfl | rfl | rfl <;> simp [en, h]
theorem en_J {G : Gx} {σ : St} {d : Id3} {n b : Nat} (h : dk d.1 = (4, n, b)) : en G σ d = .inl (G.2.2.1 b, n, .inr (.inl (σ.2 d))) := by simp [en, h]
theorem en_Q {G : Gx} {σ : St} {d : Id3} {n b : Nat} (h : dk d.1 = (5, n, b)) : en G σ d = .inl (G.2.2.1 b, n, .inr (.inr (.inr (.inr (fun j => some (G.1 (el d j))))))) := by simp [en, h]
theorem en_O {G : Gx} {σ : St} {d : Id3} {ci n : Nat} (h : dk d.1 = (0, ci, n)) : en G σ d = .inr (ci, (List.range n).map (fv G.1 σ d)) := by simp [en, h]
theorem en_ne {G : Gx} {σ σ' : St} {d : Id3} (h1 : σ'.1 d = σ.1 d) (h2 : σ'.2 d = σ.2 d) : en G σ' d = en G σ d := by
  have hf : fv G.1 σ' d = fv G.1 σ d := by funext k; simp [fv, h1]
  simp only [en, h1, h2, hf]
theorem uI_ne {σ : St} {d d' : Id3} {k : Nat} {v : Int32} (h : d' ≠ d) : (uI σ d k v).1 d' = σ.1 d' := by funext j; simp [uI, h]
theorem uL_ne {σ : St} {d d' : Id3} {k : Nat} {v : Int64} (h : d' ≠ d) : (uL σ d k v).2 d' = σ.2 d' := by funext j; simp [uL, h]
theorem uR_ne {σ : St} {d d' : Id3} {f : Nat → Int32} (h : d' ≠ d) : (uR σ d f).1 d' = σ.1 d' := by funext j; simp [uR, h]
theorem uRL_ne {σ : St} {d d' : Id3} {f : Nat → Int64} (h : d' ≠ d) : (uRL σ d f).2 d' = σ.2 d' := by funext j; simp [uRL, h]
theorem uI_self {σ : St} {d : Id3} {k : Nat} {v : Int32} : (uI σ d k v).1 d = upd (σ.1 d) k v := by funext j; simp [uI, upd]
theorem uL_self {σ : St} {d : Id3} {k : Nat} {v : Int64} : (uL σ d k v).2 d = vp_updL (σ.2 d) k v := by funext j; simp [uL, vp_updL]
theorem uR_self {σ : St} {d : Id3} {f : Nat → Int32} : (uR σ d f).1 d = f := by funext j; simp [uR]
theorem uRL_self {σ : St} {d : Id3} {f : Nat → Int64} : (uRL σ d f).2 d = f := by funext j; simp [uRL]
theorem fv_put {ad : Id3 → Nat} {σ : St} {d : Id3} {k n : Nat} {v : Int32} (hr : rk d.1 k = false) : ((List.range n).map (fv ad σ d)).set k (.int v) = (List.range n).map (fv ad (uI σ d k v) d) := by
  apply List.ext_getElem?
  intro j
  by_cases hj : j = k
  · subst hj
    rw [List.getElem?_set]
    simp only [if_true]
    by_cases hl : j < n
    · simp [hl, fv, hr, uI]
    · simp [hl]
  · rw [List.getElem?_set_ne (Ne.symm hj)]
    by_cases hl : j < n
    · simp [hl, hj, fv, uI]
    · simp [hl]
