section STR
variable {G : Gx} {p : Program} {l : Launch} {e : Env} {R : Room} {s : State} {m : MethodId} {args : Array Value} {below : List Frame} {meth : Method} {c : Code} {cells slots : Nat} {Q : State → Prop} {nL : Nat} {ret : Option FieldType} {own : String} {cc : ByteArray}
variable {pc : Nat} {ls : List (Nat × VV)} {st st0 : List VV} {σ σ' : St}
variable {y : MethodName} {bytes : ByteArray} {maxL : Nat} {ret' : Option FieldType} {rm : Room} {as : List VV} {index : Nat}
theorem ok_ro {t q i : Nat} (h : 100 ≤ t) : okv (vR (t, q, i)) := fun h1 => absurd h1 (Nat.not_lt.mpr h)
theorem n11 {q : Nat} (h : decide (q < 11) = true) : q < 11 := of_decide_eq_true h
theorem r_strV (C : Cx G p s m args meth c ret nL own cc) {q : Nat} (hd : decode cc pc = .ok (.getfield index, 3)) (hw : Cond.fieldLink own index "java/lang/String" "value" "[B" ∈ TB) (hq : q < 11) (k : Rt G p l e R s m args below meth c cells slots Q nL (pc + 3) ls (vR (121, q, 0) :: st) σ) : Rt G p l e R s m args below meth c cells slots Q nL pc ls (vR (120, q, 0) :: st) σ := by
  intro hl hs H locs la hP hS hL
  exact vk_getf C.1 C.2.1 (C.2.2.2.2.2.2.2.1.2.2.2.2.1.1 q hq).2.2.1 hS C.2.2.2.1 (C.2.2.2.2.1 _ hw) (fun _ h => h) hd (k hl (ok_c (ok_ro (by decide)) (ok_t hs)) H locs la hP hS hL)
theorem r_strC (C : Cx G p s m args meth c ret nL own cc) {q : Nat} (hd : decode cc pc = .ok (.getfield index, 3)) (hw : Cond.fieldLink own index "java/lang/String" "coder" "B" ∈ TB) (hq : q < 11) (k : Rt G p l e R s m args below meth c cells slots Q nL (pc + 3) ls (vI 0 :: st) σ) : Rt G p l e R s m args below meth c cells slots Q nL pc ls (vR (120, q, 0) :: st) σ := by
  intro hl hs H locs la hP hS hL
  exact vk_getf C.1 C.2.1 (C.2.2.2.2.2.2.2.1.2.2.2.2.1.1 q hq).2.1 hS C.2.2.2.1 (C.2.2.2.2.1 _ hw) (fun _ h => h) hd (k hl (ok_c (v := vI _) trivial (ok_t hs)) H locs la hP hS hL)
theorem r_alenS (C : Cx G p s m args meth c ret nL own cc) {q : Nat} (hd : decode cc pc = .ok (.arraylength, 1)) (hq : q < 11) (k : Rt G p l e R s m args below meth c cells slots Q nL (pc + 1) ls (vI (Int32.ofNat (stLen.getD q 0)) :: st) σ) : Rt G p l e R s m args below meth c cells slots Q nL pc ls (vR (121, q, 0) :: st) σ := by
  intro hl hs H locs la hP hS hL
  exact va_tlen C.1 C.2.1 (C.2.2.2.2.2.2.2.1.2.2.2.2.1.1 q hq).2.2.2 hS rfl hd (k hl (ok_c (v := vI _) trivial (ok_t hs)) H locs la hP hS hL)
theorem r_baloadS (C : Cx G p s m args meth c ret nL own cc) {q : Nat} {i : Int32} (j : Nat) (hd : decode cc pc = .ok (.baload, 1)) (hq : q < 11) (hi : inb i (stLen.getD q 0) = true) (hj : i.toNatClampNeg = j) (k : Rt G p l e R s m args below meth c cells slots Q nL (pc + 1) ls (vI ((stByt.getD q []).getD j 0) :: st) σ) : Rt G p l e R s m args below meth c cells slots Q nL pc ls (vI i :: vR (121, q, 0) :: st) σ := by
  intro hl hs H locs la hP hS hL
  subst hj
  exact va_tb C.1 C.2.1 (C.2.2.2.2.2.2.2.1.2.2.2.2.1.1 q hq).2.2.2 hS (inb_in hi) (v := .int ((stByt.getD q []).getD i.toNatClampNeg 0)) rfl hd (k hl (ok_c (v := vI _) trivial (ok_t (ok_t hs))) H locs la hP hS hL)
theorem r_getsCS (C : Cx G p s m args meth c ret nL own cc) (hd : decode cc pc = .ok (.getstatic index, 3)) (hw : Cond.fieldLink own index "java/lang/String" "COMPACT_STRINGS" "Z" ∈ TB) (k : Rt G p l e R s m args below meth c cells slots Q nL (pc + 3) ls (vI 1 :: st) σ) : Rt G p l e R s m args below meth c cells slots Q nL pc ls st σ := by
  intro hl hs H locs la hP hS hL
  exact va_gets C.1 C.2.1 C.2.2.2.2.2.2.2.1.2.2.1 hS C.2.2.2.1 (C.2.2.2.2.1 _ hw) (fun _ h => h) hd (k hl (ok_c (v := vI _) trivial hs) H locs la hP hS hL)
theorem r_getsFm (C : Cx G p s m args meth c ret nL own cc) (hd : decode cc pc = .ok (.getstatic index, 3)) (hw : Cond.fieldLink own index "jdk/internal/util/Preconditions" "SIOOBE_FORMATTER" "Ljava/util/function/BiFunction;" ∈ TB) (k : Rt G p l e R s m args below meth c cells slots Q nL (pc + 3) ls (vO G.2.2.2.2.2 :: st) σ) : Rt G p l e R s m args below meth c cells slots Q nL pc ls st σ := by
  intro hl hs H locs la hP hS hL
  exact va_gets C.1 C.2.1 C.2.2.2.2.2.2.2.1.2.2.2.1.1 hS C.2.2.2.1 (C.2.2.2.2.1 _ hw) (fun _ h => h) hd (k hl (ok_c (v := vO _) trivial hs) H locs la hP hS hL)
theorem r_ldcS (C : Cx G p s m args meth c ret nL RX8 cc) (q : Nat) (hq : q < 11) (hd : decode cc pc = .ok (.ldc (stIdx.getD q 0), 2)) (k : Rt G p l e R s m args below meth c cells slots Q nL (pc + 2) ls (vR (120, q, 0) :: st) σ) : Rt G p l e R s m args below meth c cells slots Q nL pc ls st σ := by
  intro hl hs H locs la hP hS hL
  exact va_ldcS C.1 C.2.1 C.2.2.2.1 (C.2.2.2.2.2.2.2.1.2.2.2.2.2.1 q hq) hd (k hl (ok_c (ok_ro (by decide)) hs) H locs la hP hS hL)
theorem nar_c {x : Int32} (h : decide ((x.toUInt32 % 65536).toInt32 = x) = true) : narrow .char (.int x) = .int x := by
  have h1 := of_decide_eq_true h
  have h2 := pk_nc x
  rw [h1] at h2
  exact h2
/-- a copy out of the class's constants -/
theorem r_copyT (C : Cx G p s m args meth c ret nL own cc) {t n n' : Nat} {d' : Id3} {sp dp z : Int32} {σ1 : St} (hd : decode cc pc = .ok (.invokestatic index, 3)) (ht : t ∈ roT) (hn : roN G t = n) (hk' : dk d'.1 = (1, n', 0)) (hw1 : Cond.methodLink own index arraycopyName ∈ TB) (hw2 : Cond.native arraycopyName ∈ TB) (hw3 : Cond.static arraycopyName ∈ TB) (hw4 : Cond.initialized "java/lang/System" ∈ TB) (hR : 1 ≤ R.frames ∧ ((st.map (tv G.1)).map fun v => v.category).sum + (nativeFrameWords "java/lang/System" "arraycopy" 5 + 11) ≤ R.locals) (hc : cpk sp dp z n n' = true) {f : Nat → Int32} (hf : roV G t = f) (hσ : σ1 = uR σ d' (va_cpy f (σ.1 d') sp.toNatClampNeg dp.toNatClampNeg z.toNatClampNeg)) (k : Rt G p l e R s m args below meth c cells slots Q nL (pc + 3) ls st σ1) : Rt G p l e R s m args below meth c cells slots Q nL pc ls (vI z :: vI dp :: vR d' :: vI sp :: vR (t, 0, 0) :: st) σ := by
  intro hl hs H locs la hP hS hL
  subst hσ
  subst hn
  subst hf
  obtain ⟨c1, c2, c3, c4, c5⟩ := of_decide_eq_true hc
  obtain ⟨k2, g3, g4⟩ := ws_at (G := G) (ok_h (ok_t (ok_t hs)) (dk_lt hk' (by decide))) σ
  rw [en_I hk' (by decide)] at g4
  have e1 := ws_set (G := G) (σ := σ) (σ' := uR σ d' (va_cpy (roV G t) (σ.1 d') sp.toNatClampNeg dp.toNatClampNeg z.toNatClampNeg)) g3 (fun d'' h => en_ne (uR_ne h) rfl) (en_I hk' (by decide))
  rw [uR_self] at e1
  have hD := C.2.2.2.2.2.2.1 σ
  have toN : ∀ v : Int32, ¬ v < 0 → v.toInt = (v.toNatClampNeg : Int) := by
    intro v hv
    have h0 : (0 : Int) ≤ v.toInt := by
      have := Int32.not_lt.mp hv
      simpa using Int32.le_iff_toInt_le.mp this
    show v.toInt = ((v.toInt.toNat : Nat) : Int)
    omega
  obtain ⟨src, b1, b2, b3, b4, -, b5, b6⟩ := C.2.2.2.2.2.2.2.1.1 t ht
  have b1H : H[G.1 (t, 0, 0)]? = some src := by rw [hS.2.1 _ (Array.getElem?_eq_some_iff.mp b1).1 b6]; exact b1
  have dH : H[G.1 d']? = some (vp_cell (G.2.2.1 0) (n', .inl (σ.1 d'))) := hP k2 _ g4
  obtain ⟨b7, ks, hks, cs, hcs⟩ := b2
  obtain ⟨-, kd, hkd, cd, hcd⟩ := (C.2.2.2.2.2.1.2 0 (G.2.2.1 0, .int) rfl).1 n' (fun j => .int (σ.1 d' j))
  intro T hT X
  obtain ⟨vm', X', step⟩ := X.arraycopy C.1 C.2.2.2.1 (C.2.2.2.2.1 _ hw1) (C.2.2.2.2.1 _ hw2) (C.2.2.2.2.1 _ hw3) (C.2.2.2.2.1 _ hw4) (src := G.1 (t, 0, 0)) (dst := G.1 d') (cs := src) (cd := vp_cell (G.2.2.1 0) (n', .inl (σ.1 d'))) (srcPos := sp) (destPos := dp) (n := z) (by rw [hT]; exact b1H) (by rw [hT]; exact dH)
    b7 (fun _ h => by cases h) b3 (fun h => by cases h) hks hkd hcs hcd (by simp [refKind]) c1 c2 c3
    (by rw [toN sp c1, toN z c3]; omega)
    (by rw [toN dp c2, toN z c3]; show ¬ _ > ((arrV (G.2.2.1 0) n' (fun j => .int (σ.1 d' j))).slots.size : Int); rw [arrV_size]; omega)
    (fun vm₁ _ i hi => by
      have e2 : src.slots.getD (sp.toNatClampNeg + i) .null = .int (roV G t (sp.toNatClampNeg + i)) := by
        rw [Array.getD_eq_getD_getElem?, b5 _ (by omega)]
        rfl
      refine ⟨?_, ?_⟩
      · rw [e2]; rfl
      · rw [e2]; exact trivial)
    (g := F0 m pc la ((vI z :: vI dp :: vR d' :: vI sp :: vR (t, 0, 0) :: st).map (tv G.1))) rfl (hL.1.trans C.2.2.1.symm) (rest := st.map (tv G.1)) rfl (by rw [C.2.1]; exact hd) hR.1 (by have := hR.2; show 2 * 0 + _ + _ ≤ _; omega)
  have e3 : copied src (vp_cell (G.2.2.1 0) (n', .inl (σ.1 d'))) sp dp z = vp_cell (G.2.2.1 0) (n', .inl (va_cpy (roV G t) (σ.1 d') sp.toNatClampNeg dp.toNatClampNeg z.toNatClampNeg)) := va_copiedX (fun v => .int v) src (G.2.2.1 0) (roV G t) (σ.1 d') b5 c4
  rw [e3] at X' step
  have hlt : G.1 d' < H.size := (Array.getElem?_eq_some_iff.mp dH).1
  have oq : ∀ q : Nat, q ≠ G.1 d' → (H.setIfInBounds (G.1 d') (vp_cell (G.2.2.1 0) (n', .inl (va_cpy (roV G t) (σ.1 d') sp.toNatClampNeg dp.toNatClampNeg z.toNatClampNeg))))[q]? = H[q]? := fun q hq => by simp [Array.getElem?_setIfInBounds, Ne.symm hq]
  have hP1 := hP.set hD g4 (e := .inl (G.2.2.1 0, n', .inl (va_cpy (roV G t) (σ.1 d') sp.toNatClampNeg dp.toNatClampNeg z.toNatClampNeg))) (H1 := H.setIfInBounds (G.1 d') (vp_cell (G.2.2.1 0) (n', .inl (va_cpy (roV G t) (σ.1 d') sp.toNatClampNeg dp.toNatClampNeg z.toNatClampNeg)))) (show (H.setIfInBounds (G.1 d') _)[G.1 d']? = some _ by simp [Array.getElem?_setIfInBounds, hlt]) oq
  rw [e1] at hP1
  obtain ⟨t2, a1, a2⟩ := k hl (ok_t (ok_t (ok_t (ok_t (ok_t hs))))) _ _ la hP1 ⟨by simp; exact hS.1, fun q h1 h2 => by
      rw [oq q (fun e => h2 (by rw [e]; exact hD.2 k2 _ g4))]
      exact hS.2.1 q h1 h2, fun q hq => by
      rcases List.mem_append.mp hq with h | h
      · exact hS.2.2 q h
      · obtain ⟨v, -, hv⟩ := List.mem_map.mp h
        rw [← hv]
        exact hD.2 k2 _ g4⟩ hL _ (by rw [← hT]; rfl) X'
  exact ⟨t2, step t2 a1, a2⟩
theorem r_callX_i (C : Cx G p s m args meth c ret nL own cc) {r : Int32} {q : Nat} (hd : decode cc pc = .ok (.invokevirtual index, 3)) (hM : Sp G l y bytes maxL ret' rm (vR (120, q, 0) :: as) σ (va_Qi (fun a b => a = r ∧ b = σ') (Wd G) (AG G))) (hq : q < 11) (hw1 : Cond.methodLink own index y ∈ TB) (hw2 : Cond.instanceMethod y ∈ TB) (hw5 : Cond.selects "java/lang/String" y y ∈ TB) (hw3 : Cond.initialized y.cls ∈ TB) (hw4 : Cond.code y bytes maxL ret' ∈ TB) (hy : y.cls ≠ "java/lang/invoke/MethodHandle" ∧ y.cls ≠ "java/lang/invoke/VarHandle" ∧ (parseMethodDescriptor y.desc).map (fun d => d.parameters.length) = some as.length) (hR : rm.frames + 1 ≤ R.frames ∧ 8 + (maxL + 11) + rm.locals ≤ R.locals) (hrm : rm.cells = 0 ∧ rm.slots = 0) (hcs : cells ≤ R.cells ∧ slots ≤ R.slots) (h0 : st0 = as.reverse ++ (vR (120, q, 0) :: st)) (hst : ((st.map (tv G.1)).map fun v => v.category).sum ≤ 8) (k : Rt G p l e R s m args below meth c cells slots Q nL (pc + 3) ls (vI r :: st) σ') : Rt G p l e R s m args below meth c cells slots Q nL pc ls st0 σ := by
  intro hl hs H locs la hP hS hL
  subst h0
  have HD : okv (vR (120, q, 0)) := ok_h (ok_a hs).2
  have HA : ∀ v ∈ vR (120, q, 0) :: as, okv v := ok_c HD (fun v hv => (ok_a hs).1 v (List.mem_reverse.mpr hv))
  have HR : ∀ v ∈ st, okv v := ok_t (ok_a hs).2
  have hM := hM HA
  exact va_calli (va_runV (C := "java/lang/String") (b := G.1 (120, q, 0)) (As := as.map (tv G.1)) (rest := st.map (tv G.1)) (Ts := TB) ⟨C.1, C.2.1, C.2.2.1, C.2.2.2.1, C.2.2.2.2.1⟩ hM ⟨callB_of as.length C.2.2.2.2.1 (TB_good (fun _ h => h) hw4) rfl hrm.1 hrm.2 (C.2.2.2.2.1 _ hw3) (C.2.2.2.2.1 _ hw1) hy hR, C.2.2.2.2.1 _ hw2, C.2.2.2.2.1 _ hw5⟩ ⟨fun a U g mk q => ⟨q.1, Wd_call q.2⟩, vk_recv C.2.2.2.2.2.2.2.1.2.2.2.2.1 hq hS, fun U hU hW => ⟨rfl, Wd_of C hP hS hU hW⟩⟩ rfl (by simp) hL.1 (by simp [F0, tv]) (lv_room hst) hd hcs) hS (fun q _ h => h) (fun q h => h) (fun r1 u t H1 locs1 ht hvm hpost hB hz hk hS1 => by
    obtain ⟨rfl, rfl⟩ := hpost
    exact k hl (ok_c (v := vI _) trivial HR) H1 locs1 la (by rw [← ht]; exact hB.1) hS1 hL)
end STR
