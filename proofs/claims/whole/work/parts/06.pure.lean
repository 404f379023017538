/-! the words that the pictures of methods are written in: a name, a check, a call -/
def nam {α β : Type} (a : α) (f : α → β) : β := f a
theorem nam_e {α β : Type} {a : α} {f : α → β} {r : β} (h : nam a f = r) : ∃ x, x = a ∧ f x = r := ⟨a, rfl, h⟩
def ck {α : Type} (b : Bool) (k : Option α) : Option α := if b = true then k else none
theorem ck_e {α : Type} {b : Bool} {k : Option α} {r : α} (h : ck b k = some r) : b = true ∧ k = some r := by
  unfold ck at h
  split at h
  · exact ⟨by assumption, h⟩
  · cases h
def bd {α β : Type} (o : Option (α × St)) (f : α → St → Option β) : Option β := match o with
  | none => none
  | some (a, s) => f a s
theorem bd_e {α β : Type} {o : Option (α × St)} {f : α → St → Option β} {r : β} (h : bd o f = some r) : ∃ a s, o = some (a, s) ∧ f a s = some r := by
  cases o with
  | none => cases h
  | some q =>
    obtain ⟨a, s⟩ := q
    exact ⟨a, s, rfl, h⟩
theorem if_t {c : Prop} {α : Type} {i : Decidable c} {a b r : α} (h : c) (hF : @ite α c i a b = r) : a = r := by rwa [if_pos h] at hF
theorem if_f {c : Prop} {α : Type} {i : Decidable c} {a b r : α} (h : ¬ c) (hF : @ite α c i a b = r) : b = r := by rwa [if_neg h] at hF
theorem rt_e {α : Type} {x r : α} {s s' : St} (h : some (x, s) = some (r, s')) : x = r ∧ s = s' := by
  cases h
  exact ⟨rfl, rfl⟩
theorem rv_e {s s' : St} (h : some ((), s) = some ((), s')) : s = s' := by
  cases h
  rfl
theorem ra_e {d : Id3} {s s' : St} (h : some ((), s) = some ((), s')) : (s, d) = (s', d) := by
  cases h
  rfl
theorem rs_e {k r : Nat} {s s' : St} (h : some (k, s) = some (r, s')) : ((s, (120, k, 0)) : St × Id3) = (s', (120, r, 0)) := by
  cases h
  rfl
/-- how often a loop may go round -/
def FU : Nat := 1000
def lvl (n : Nat) : Room := { frames := n, cells := 0, slots := 0, locals := 40 * n }
theorem bz {x : Int32} (h : decide (x = 0 ∨ x = 1) = true) : x = 0 ∨ x = 1 := of_decide_eq_true h
theorem nz {x : Int32} (h : decide (¬ x = 0) = true) : ¬ x = 0 := of_decide_eq_true h
theorem nzl {x : Int64} (h : decide (¬ x = 0) = true) : ¬ x = 0 := of_decide_eq_true h
