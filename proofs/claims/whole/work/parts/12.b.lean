/-- the store before the model's drafts, after all objects have been made -/
def k_all (σ : St) : St := k_X11p (uR (k_X10_1 (uR σ (0, 0, 0) (fun _ => 0))) (40, 0, 0) (fun _ => 0))
def sgz : St := (fun _ _ => 0, fun _ _ => 0)
/-- what is left to show of stores alone -/
def Pure_ok : Prop := ∃ σ1 σ2 : St, F_X11_firstDraft (k_all sgz) = some ((), σ1) ∧ F_X11_keepDraft σ1 = some ((), σ2) ∧ ∀ (N : Nat) (xs : Nat → Int32), N ≤ 3072 → ∃ n σ', L_law N xs n 0 σ2 = some ((1 : Int32), σ')
set_option maxHeartbeats 4000000 in
set_option maxRecDepth 20000 in
theorem whole_start_open (hpure : Pure_ok) {p : Program} {e : Env} {s : State} {m : MethodId} {below : List Frame} {meth : Method} {c : Code} (l : Launch) {b L : Nat} {xs : Nat → Int32} (hL : L ≤ 3072) (C0 : lw_At p s m meth c b L xs) : W p l e room_1 s m #[Value.ref b] below meth c s.heap [] 0 0 (lw_Z below #[Value.ref b] s) (entryFrame m ([Value.ref b] : List Value).toArray 4) := by
  obtain ⟨σ1, σ2, e1, e2, hloop⟩ := hpure
  obtain ⟨nn, σ', e3⟩ := hloop L xs hL
  obtain ⟨G, hN, hxs, hGb, hAd, hKs, hEs⟩ := start_G C0
  obtain ⟨hx, hb, hr, hml, hown, hts, hX, hbl, hlocks, hgv⟩ := C0
  have C : Cs G s.heap.size 0 p s m #[Value.ref b] meth c ret 4 R_law code := ⟨hx, hb, hml, hown, fun w h => hts w (TB_in h), hKs, hAd, hEs, hlocks, hr, rfl⟩
  have CX : Cx G p s m #[Value.ref b] meth c ret 4 R_law code := ⟨hx, hb, hml, hown, fun w h => hts w (TB_in h), hKs, D_full hAd, by rw [AG_eq hAd]; exact hEs.1, hlocks, hr⟩
  have hG : ∀ d ∈ ids, s.heap.size ≤ G.1 d := fun d hd => ((A_full hAd (G.1 d)).mp ⟨d, hd, rfl⟩).1
  have hl := lv_entry ([.ref b]) (n := 4) (Nat.le_of_ble_eq_true rfl)
  rw [lg_entry_eq]
  have hl2 : lv_has ((lg_sl [Value.ref b] ++ List.replicate (4 - (lg_sl [Value.ref b]).length) Slot.unset).toArray) 4 (([(0, vR (110, 0, 0))] : List (Nat × VV)).map (tp G.1)) := by
    show lv_has _ 4 [(0, Value.ref (G.1 (110, 0, 0)))]
    rw [hGb]
    exact hl
  suffices hRs : Rs G s.heap.size p l e room_1 s m #[Value.ref b] below meth c (lw_Z below #[Value.ref b] s) 4 0 0 0 0 0 [(0, vR (110, 0, 0))] [] sgz from
    hRs s.heap [] _ (fun k q hq => by simp [wsZ] at hq) va_S.rf hl2
  refine s_new (d := (0, 0, 0)) (ty := tyX10) C dL_law_0 rfl rfl rfl f_X10 tyX10_ok (by decide +kernel) t_1_21 t_1_22 t_1_1 rfl (by decide) ⟨Nat.le_of_ble_eq_true rfl, Nat.le_of_ble_eq_true rfl⟩ ?_
  refine s_dup C dL_law_3 ?_
  refine s_callI (as := []) (st := [vR (0, 0, 0)]) (mc := 94) (ms := 2245) (n1 := 95) (k1 := 94) C dL_law_4 (i_X10_1 G s.heap.size l _) t_1_23 t_1_24 t_1_1 rfl t_1_25 m_X10_init ⟨Nat.le_of_ble_eq_true rfl, Nat.le_of_ble_eq_true rfl⟩ ⟨rfl, rfl⟩ ⟨Nat.le_of_ble_eq_true rfl, Nat.le_of_ble_eq_true rfl⟩ rfl (by decide) rfl (Nat.le_of_ble_eq_true rfl) ?_
  refine s_astore_n (ls2 := [(1, vR (0, 0, 0)), (0, vR (110, 0, 0))]) C dL_law_7 1 rfl (by decide) rfl ?_
  refine s_new (d := (40, 0, 0)) (ty := tyX11) C dL_law_8 rfl rfl rfl f_X11 tyX11_ok (by decide +kernel) t_5_42 t_5_43 t_1_14 rfl (by decide) ⟨Nat.le_of_ble_eq_true rfl, Nat.le_of_ble_eq_true rfl⟩ ?_
  refine s_dup C dL_law_11 ?_
  refine s_callI (as := []) (st := [vR (40, 0, 0)]) (mc := 14) (ms := 1813) (n1 := 110) (k1 := 108) C dL_law_12 (i_X11 G s.heap.size l _ e1 e2) t_5_44 t_5_45 t_1_14 rfl t_5_46 m_X11_init ⟨Nat.le_of_ble_eq_true rfl, Nat.le_of_ble_eq_true rfl⟩ ⟨rfl, rfl⟩ ⟨Nat.le_of_ble_eq_true rfl, Nat.le_of_ble_eq_true rfl⟩ rfl (by decide) rfl (Nat.le_of_ble_eq_true rfl) ?_
  refine s_astore_n (ls2 := [(2, vR (40, 0, 0)), (1, vR (0, 0, 0)), (0, vR (110, 0, 0))]) C dL_law_15 2 rfl (by decide) rfl ?_
  refine s_iconst (v := 0) C dL_law_16 rfl ?_
  refine s_istore_n (ls2 := [(3, vI 0), (2, vR (40, 0, 0)), (1, vR (0, 0, 0)), (0, vR (110, 0, 0))]) C dL_law_17 3 rfl (by decide) rfl ?_
  intro H locs la hP hS hLv
  have hS' : va_S (AG G) s.heap H locs := by rw [AG_eq hAd]; exact hS
  refine l_law CX hG (by decide) (by decide) hN hxs nn 0 σ2 e3 (fun q hq => ?_) (fun v hv => by cases hv) H locs la (P_full.mp hP) hS' ⟨hLv.1, hLv.2.1, fun x hx => hLv.2.2 x (by
    simp only [List.map_cons, List.map_nil, List.mem_cons, List.not_mem_nil, or_false] at hx ⊢
    rcases hx with h | h | h | h <;> simp [h])⟩
  simp only [List.mem_cons, List.not_mem_nil, or_false] at hq
  rcases hq with rfl | rfl | rfl | rfl
  · exact ok_ro (by decide)
  · exact fun _ => by decide
  · exact fun _ => by decide
  · exact trivial
